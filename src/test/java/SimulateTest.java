/** Promise 16: simulate. */
public final class SimulateTest {
    public static void main(String[] args) {
        redundantByHand();
        withoutOutputs();
        everyFaultOfAParity();
        outOfRange();
        Check.end();
    }

    private static void redundantByHand() {
        PodemTestGen x = Nets.redundant();
        counts(x, "before seal()");
        x.seal();
        for (int i = 0; i < 7; i++) {
            counts(x, "after " + i + " nextTest()");
            x.nextTest();
        }
    }

    private static void counts(PodemTestGen x, String when) {
        int[] counts = {3, 5, 4, 4};
        String before = Picture.of(x);
        for (int v = 0; v < 4; v++) {
            Check.due("simulate(" + v + ") " + when, x.simulate(v), counts[v]);
        }
        Check.due("simulate(4) " + when, x.simulate(4), -1);
        Check.due("state after simulate " + when, Picture.of(x), before);
    }

    private static void withoutOutputs() {
        PodemTestGen x = new PodemTestGen(8, 2);
        Check.due("simulate(0) without nodes", x.simulate(0), 0);
        Check.due("simulate(1) without nodes", x.simulate(1), -1);
        Check.due("simulate(-1) without nodes", x.simulate(-1), -1);
        x.addInput();
        Check.due("simulate(0) without outputs", x.simulate(0), 0);
        Check.due("simulate(1) without outputs", x.simulate(1), 0);
        Check.due("simulate(2) with one input", x.simulate(2), -1);
    }

    /** In an XOR chain one of the two faults of every node shows under every vector. */
    private static void everyFaultOfAParity() {
        PodemTestGen x = Nets.parity(10);
        for (int v = 0; v < 1024; v += 11) {
            Check.due("simulate(" + v + ")", x.simulate(v), 19);
        }
        Check.due("simulate(1023)", x.simulate(1023), 19);
        Check.due("simulate(1024)", x.simulate(1024), -1);
    }

    private static void outOfRange() {
        PodemTestGen x = Nets.redundant();
        for (int v : Nets.WRONG) {
            Check.due("simulate(" + v + ")", x.simulate(v), -1);
        }
    }
}
