/** Promise 1: a new object is empty and unsealed, and its limits are clamped. */
public final class ConstructionTest {
    public static void main(String[] args) {
        nodeLimits();
        inputLimits();
        emptyAtFirst();
        Check.end();
    }

    private static void nodeLimits() {
        int[] given = {Integer.MIN_VALUE, -1, 0, 7, 8, 9, 20, 31, 32, 33, 100, Integer.MAX_VALUE};
        int[] kept = {8, 8, 8, 8, 8, 9, 20, 31, 32, 32, 32, 32};
        for (int i = 0; i < given.length; i++) {
            PodemTestGen x = new PodemTestGen(given[i], 1);
            x.addInput();
            for (int n = 1; n < 40; n++) {
                x.addGate(PodemTestGen.KIND_BUF, 0, 0);
            }
            Check.due("nodeCount() of a full netlist with node limit " + given[i], x.nodeCount(), kept[i]);
        }
    }

    private static void inputLimits() {
        int[] given = {Integer.MIN_VALUE, -1, 0, 1, 2, 5, 9, 10, 11, 32, Integer.MAX_VALUE};
        int[] kept = {1, 1, 1, 1, 2, 5, 9, 10, 10, 10, 10};
        for (int i = 0; i < given.length; i++) {
            PodemTestGen x = new PodemTestGen(32, given[i]);
            for (int n = 0; n < 40; n++) {
                x.addInput();
            }
            Check.due("nodeCount() after 40 addInput() with input limit " + given[i], x.nodeCount(), kept[i]);
        }
    }

    private static void emptyAtFirst() {
        PodemTestGen x = new PodemTestGen(32, 10);
        Check.due("nodeCount() of a new object", x.nodeCount(), 0);
        Check.due("testCount() of a new object", x.testCount(), 0);
        Check.due("nodeKind(0) of a new object", x.nodeKind(0), -1);
        Check.due("isOutput(0) of a new object", x.isOutput(0), false);
        Check.due("faultStatus(0) of a new object", x.faultStatus(0), -1);
        Check.due("detectedBy(0) of a new object", x.detectedBy(0), -1);
        Check.due("testVector(0) of a new object", x.testVector(0), -1);
        Check.due("testTarget(0) of a new object", x.testTarget(0), -1);
        Check.due("evaluate(0, 0) of a new object", x.evaluate(0, 0), -1);
        Check.due("detects(0, 0) of a new object", x.detects(0, 0), false);
        Check.due("simulate(0) of a new object", x.simulate(0), 0);
        Check.due("simulate(1) of a new object", x.simulate(1), -1);
        Check.due("nextTest() of a new object", x.nextTest(), PodemTestGen.RESULT_NONE);
        Check.due("seal() of a new object", x.seal(), false);
        Check.due("addInput() of a new object", x.addInput(), 0);

        PodemTestGen other = new PodemTestGen(32, 10);
        Check.due("nodeCount() of a second object", other.nodeCount(), 0);
    }
}
