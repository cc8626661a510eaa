/** Promise 5: seal. */
public final class SealTest {
    public static void main(String[] args) {
        faultsAtFirst();
        refusals();
        aRefusedSealLeavesItOpen();
        freezes();
        Check.end();
    }

    private static void faultsAtFirst() {
        PodemTestGen x = Nets.parity(10);
        Check.due("seal()", x.seal(), true);
        Check.due("testCount()", x.testCount(), 0);
        for (int f = 0; f < 38; f++) {
            Check.due("faultStatus(" + f + ")", x.faultStatus(f), PodemTestGen.STATUS_UNTRIED);
            Check.due("detectedBy(" + f + ")", x.detectedBy(f), -1);
        }
        Check.due("faultStatus(38)", x.faultStatus(38), -1);
    }

    private static void refusals() {
        PodemTestGen empty = new PodemTestGen(8, 1);
        refused(empty, "on an empty netlist");
        PodemTestGen bare = new PodemTestGen(8, 1);
        bare.addInput();
        bare.addGate(PodemTestGen.KIND_NOT, 0, 0);
        refused(bare, "without an output");
        PodemTestGen x = Nets.redundant();
        x.seal();
        refused(x, "when sealed");
        x.nextTest();
        refused(x, "when sealed, with a test");
        for (int i = 0; i < 12; i++) {
            x.nextTest();
        }
        refused(x, "when sealed, with no fault left");
    }

    private static void refused(PodemTestGen x, String when) {
        String before = Picture.of(x);
        Check.due("seal() " + when, x.seal(), false);
        Check.due("state after seal() " + when, Picture.of(x), before);
    }

    private static void aRefusedSealLeavesItOpen() {
        PodemTestGen x = new PodemTestGen(8, 2);
        x.seal();
        Check.due("addInput() after a refused seal()", x.addInput(), 0);
        x.seal();
        Check.due("addGate after a refused seal()", x.addGate(PodemTestGen.KIND_NOT, 0, 0), 1);
        Check.due("markOutput after a refused seal()", x.markOutput(1), true);
        Check.due("seal() at last", x.seal(), true);
    }

    private static void freezes() {
        PodemTestGen x = new PodemTestGen(32, 10);
        x.addInput();
        x.addGate(PodemTestGen.KIND_BUF, 0, 0);
        x.markOutput(1);
        x.seal();
        String before = Picture.of(x);
        Check.due("addInput() when sealed", x.addInput(), -1);
        Check.due("addGate when sealed", x.addGate(PodemTestGen.KIND_BUF, 0, 0), -1);
        Check.due("markOutput when sealed", x.markOutput(0), false);
        Check.due("state when sealed", Picture.of(x), before);
    }
}
