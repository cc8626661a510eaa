/** Promise 1: a new object is empty and unsealed, and its limits are clamped. */
public final class ConstructionTest {
    private static final int[] FAR_BELOW = {
        Integer.MIN_VALUE, Integer.MIN_VALUE + 1, Integer.MIN_VALUE + 20, -65536, -1000, -256, -32, -20, -10, -8, -5,
        -2, -1, 0};
    private static final int[] FAR_ABOVE = {
        40, 63, 64, 100, 128, 256 + 9, 1024, 65536 + 5, 1 << 20, 1 << 30, Integer.MAX_VALUE - 20,
        Integer.MAX_VALUE - 1, Integer.MAX_VALUE};
    private static final int[] ANY = {
        Integer.MIN_VALUE, -1, 0, 1, 2, 7, 8, 9, 10, 11, 31, 32, 33, Integer.MAX_VALUE};

    public static void main(String[] args) {
        Check.sentence("creates an empty, unsealed netlist: no nodes, no outputs, no tests.",
            ConstructionTest::emptyAtFirst);
        Check.sentence("nodeCount and inputCount are 0, and testCount() answers 0.", ConstructionTest::countsAtFirst);
        Check.sentence("nodeLimit is clamped into [8, 32]: a value below 8 becomes 8",
            ConstructionTest::nodeLimitBelow);
        Check.sentence("a value above 32 becomes 32", ConstructionTest::nodeLimitAbove);
        Check.sentence("a value above 32 becomes 32, any value in between is kept", ConstructionTest::nodeLimitKept);
        Check.sentence("inputLimit is clamped into [1, 10]: below 1 becomes 1", ConstructionTest::inputLimitBelow);
        Check.sentence("above 10 becomes 10", ConstructionTest::inputLimitAbove);
        Check.sentence("above 10 becomes 10, any value in between is kept", ConstructionTest::inputLimitKept);
        Check.sentence("This holds for every int, including Integer.MIN_VALUE and Integer.MAX_VALUE.",
            ConstructionTest::everyInt);
        Check.sentence("The clamped limits never change afterwards.", ConstructionTest::limitsStay);
        Check.end();
    }

    private static void emptyAtFirst() {
        for (int nodeLimit : ANY) {
            for (int inputLimit : ANY) {
                PodemTestGen x = new PodemTestGen(nodeLimit, inputLimit);
                for (int i = 0; i < 64; i++) {
                    Check.due("nodeKind(" + i + ") of a new object", x.nodeKind(i), -1);
                    Check.due("isOutput(" + i + ") of a new object", x.isOutput(i), false);
                    Check.due("testVector(" + i + ") of a new object", x.testVector(i), -1);
                    Check.due("testTarget(" + i + ") of a new object", x.testTarget(i), -1);
                    Check.due("faultStatus(" + i + ") of a new object", x.faultStatus(i), -1);
                    Check.due("detectedBy(" + i + ") of a new object", x.detectedBy(i), -1);
                }
                Check.due("nextTest() of a new object", x.nextTest(), PodemTestGen.RESULT_NONE);
                Check.due("seal() of a new object", x.seal(), false);
                Check.due("addInput() of a new object", x.addInput(), 0);
            }
        }
    }

    private static void countsAtFirst() {
        Nets.after(Nets.sealedAt(Nets.redundant(), 5), 6);
        for (int nodeLimit : ANY) {
            for (int inputLimit : ANY) {
                PodemTestGen x = new PodemTestGen(nodeLimit, inputLimit);
                Check.due("nodeCount() of a new object", x.nodeCount(), 0);
                Check.due("testCount() of a new object", x.testCount(), 0);
                Check.due("simulate(0) with inputCount 0", x.simulate(0), 0);
                Check.due("simulate(1) with inputCount 0", x.simulate(1), -1);
            }
        }
    }

    private static void nodeLimitBelow() {
        for (int given = 1; given < 8; given++) {
            nodeLimit(given, 8);
        }
        for (int given : FAR_BELOW) {
            nodeLimit(given, 8);
        }
    }

    private static void nodeLimitAbove() {
        for (int given = 33; given < 40; given++) {
            nodeLimit(given, 32);
        }
        for (int given : FAR_ABOVE) {
            nodeLimit(given, 32);
        }
    }

    private static void nodeLimitKept() {
        for (int given = 8; given <= 32; given++) {
            nodeLimit(given, given);
        }
    }

    private static void inputLimitBelow() {
        for (int given : FAR_BELOW) {
            inputLimit(given, 1);
        }
    }

    private static void inputLimitAbove() {
        for (int given = 11; given < 40; given++) {
            inputLimit(given, 10);
        }
        for (int given : FAR_ABOVE) {
            inputLimit(given, 10);
        }
    }

    private static void inputLimitKept() {
        for (int given = 1; given <= 10; given++) {
            inputLimit(given, given);
        }
    }

    private static void everyInt() {
        for (int nodeLimit : ANY) {
            for (int inputLimit : ANY) {
                String made = "new PodemTestGen(" + nodeLimit + ", " + inputLimit + "): ";
                PodemTestGen x = new PodemTestGen(nodeLimit, inputLimit);
                int nodes = Math.max(8, Math.min(32, nodeLimit));
                int inputs = Math.min(nodes, Math.max(1, Math.min(10, inputLimit)));
                Check.due(made + "inputs until one is refused", inputsThatFit(x), inputs);
                Check.due(made + "gates until one is refused", gatesThatFit(x), nodes - inputs);
            }
        }
    }

    private static void limitsStay() {
        PodemTestGen x = new PodemTestGen(12, 3);
        PodemTestGen greater = new PodemTestGen(32, 10);
        PodemTestGen less = new PodemTestGen(8, 1);
        Check.due("inputs of 3", inputsThatFit(x), 3);
        everyOtherCall(x);
        Check.due("inputs of 3, once more", inputsThatFit(x), 0);
        x.addGate(PodemTestGen.KIND_AND, 0, 1);
        Check.due("inputs of 3, after a gate", inputsThatFit(x), 0);
        Check.due("gates of 12 nodes", gatesThatFit(x), 8);
        everyOtherCall(x);
        Check.due("gates of 12 nodes, once more", gatesThatFit(x), 0);
        Check.due("inputs at both limits", inputsThatFit(x), 0);
        Check.due("inputs of another object", inputsThatFit(greater), 10);
        Check.due("gates of another object", gatesThatFit(greater), 22);
        Check.due("inputs of a third object", inputsThatFit(less), 1);
        Check.due("gates of a third object", gatesThatFit(less), 7);
    }

    private static void everyOtherCall(PodemTestGen x) {
        x.addGate(PodemTestGen.KIND_INPUT, 0, 0);
        x.addGate(PodemTestGen.KIND_AND, 0, 99);
        x.markOutput(-1);
        x.markOutput(99);
        x.seal();
        x.nextTest();
        Views.told().forEach(view -> view.of().apply(x));
    }

    private static void nodeLimit(int given, int kept) {
        PodemTestGen gates = new PodemTestGen(given, 1);
        gates.addInput();
        Check.due("nodes that fit with node limit " + given, 1 + gatesThatFit(gates), kept);
        PodemTestGen inputs = new PodemTestGen(given, 10);
        Check.due("inputs that fit with node limit " + given, inputsThatFit(inputs), Math.min(kept, 10));
    }

    private static void inputLimit(int given, int kept) {
        PodemTestGen x = new PodemTestGen(32, given);
        Check.due("inputs that fit with input limit " + given, inputsThatFit(x), kept);
        Check.due("gates that fit with input limit " + given, gatesThatFit(x), 32 - kept);
    }

    private static int inputsThatFit(PodemTestGen x) {
        int fit = 0;
        while (fit < 99 && x.addInput() >= 0) {
            fit++;
        }
        return fit;
    }

    private static int gatesThatFit(PodemTestGen x) {
        int fit = 0;
        while (fit < 99 && x.addGate(PodemTestGen.KIND_BUF, 0, 0) >= 0) {
            fit++;
        }
        return fit;
    }
}
