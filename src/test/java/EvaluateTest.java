/** Promise 14: evaluate. */
public final class EvaluateTest {
    public static void main(String[] args) {
        Check.sentence("BUF a; NOT 1-a; AND a&b; NAND 1-(a&b); OR a|b; NOR 1-(a|b); XOR a^b; XNOR 1-(a^b).",
            EvaluateTest::truthTables);
        Check.sentence("`evaluate(v, node)` answers the good-evaluation value (0 or 1) of node under vector v",
            EvaluateTest::parities);
        Check.sentence("for the current netlist.", EvaluateTest::currentNetlist);
        Check.sentence("Works whether or not the netlist is sealed.", EvaluateTest::sealedOrNot);
        Check.sentence("Answers -1 if v is out of range (v < 0 or v >= (1 << inputCount))",
            EvaluateTest::vectorOutOfRange);
        Check.sentence("or if node < 0 or node >= nodeCount.", EvaluateTest::nodeOutOfRange);
        Check.sentence("out of range (v < 0 or v >= (1 << inputCount)), or if node < 0 or node >= nodeCount.",
            EvaluateTest::bothOutOfRange);
        Check.sentence("Changes nothing.", EvaluateTest::changesNothing);
        Check.end();
    }

    private static void truthTables() {
        int[][] tables = {
            {0, 1, 0, 1}, {1, 0, 1, 0}, {0, 0, 0, 1}, {1, 1, 1, 0},
            {0, 1, 1, 1}, {1, 0, 0, 0}, {0, 1, 1, 0}, {1, 0, 0, 1}};
        for (int kind = 0; kind <= 7; kind++) {
            PodemTestGen x = Nets.oneGate(kind);
            for (int v = 0; v < 4; v++) {
                Check.due("kind " + kind + " under " + v, x.evaluate(v, 2), tables[kind][v]);
                Check.due("input 0 under " + v, x.evaluate(v, 0), v & 1);
                Check.due("input 1 under " + v, x.evaluate(v, 1), v >> 1);
            }
        }
    }

    private static void parities() {
        PodemTestGen x = Nets.parity(10);
        for (int v = 0; v < 1024; v++) {
            Check.due("parity of " + v, x.evaluate(v, 18), Integer.bitCount(v) % 2);
            Check.due("input 0 under " + v, x.evaluate(v, 0), v & 1);
            Check.due("input 9 under " + v, x.evaluate(v, 9), v >> 9);
        }
    }

    private static void currentNetlist() {
        PodemTestGen x = new PodemTestGen(32, 10);
        Check.due("evaluate(0, 0) without nodes", x.evaluate(0, 0), -1);
        for (int inputs = 1; inputs <= 10; inputs++) {
            int last = (1 << inputs) - 1;
            Check.due("the last vector, before its input", x.evaluate(last, 0), -1);
            int node = x.addInput();
            Check.due("the last vector", x.evaluate(last, node), 1);
            Check.due("the new input's first vector", x.evaluate(1 << (inputs - 1), node), 1);
            Check.due("the vector before it", x.evaluate((1 << (inputs - 1)) - 1, node), 0);
            Check.due("a gate, before it is added", x.evaluate(last, node + 1), -1);
            x.addGate(PodemTestGen.KIND_NOT, node, 0);
            Check.due("a gate, once it is added", x.evaluate(last, node + 1), 0);
        }
    }

    private static void sealedOrNot() {
        PodemTestGen x = Nets.redundant();
        for (int round = 0; round < 8; round++) {
            for (int v = 0; v < 4; v++) {
                int a = v & 1;
                int[] values = {a, v >> 1, a & v >> 1, 1 - a, 0, a & v >> 1};
                for (int n = 0; n < 6; n++) {
                    Check.due("evaluate(" + v + ", " + n + ") in round " + round, x.evaluate(v, n), values[n]);
                }
            }
            x.seal();
            x.nextTest();
        }
    }

    private static void vectorOutOfRange() {
        for (States.State state : States.all()) {
            PodemTestGen x = state.made().get();
            for (int v : Edges.outside(Nets.vectors(x))) {
                for (int node = 0; node < x.nodeCount(); node++) {
                    Check.due("evaluate(" + v + ", " + node + ") " + state.name(), x.evaluate(v, node), -1);
                }
            }
        }
        for (int inputs = 1; inputs <= 10; inputs++) {
            PodemTestGen x = Nets.inputs(32, 10, inputs);
            for (int node = 0; node < inputs; node++) {
                Check.due("evaluate of the last vector", x.evaluate((1 << inputs) - 1, node), 1);
                Check.due("evaluate one past the last vector", x.evaluate(1 << inputs, node), -1);
                Check.due("evaluate of -1", x.evaluate(-1, node), -1);
            }
        }
    }

    private static void nodeOutOfRange() {
        for (States.State state : States.all()) {
            PodemTestGen x = state.made().get();
            int last = Nets.vectors(x) - 1;
            for (int node : Edges.outside(x.nodeCount())) {
                Check.due("evaluate(0, " + node + ") " + state.name(), x.evaluate(0, node), -1);
                Check.due("evaluate(" + last + ", " + node + ") " + state.name(), x.evaluate(last, node), -1);
            }
            for (int node = 0; node < x.nodeCount(); node++) {
                Check.due("evaluate(0, " + node + ") is told, " + state.name(), x.evaluate(0, node) >= 0, true);
            }
        }
    }

    private static void bothOutOfRange() {
        for (States.State state : States.all()) {
            PodemTestGen x = state.made().get();
            for (int v : Edges.outside(Nets.vectors(x))) {
                for (int node : Edges.outside(x.nodeCount())) {
                    Check.due("evaluate(" + v + ", " + node + ") " + state.name(), x.evaluate(v, node), -1);
                }
            }
        }
    }

    private static void changesNothing() {
        for (States.State state : States.all()) {
            Unchanged.by("evaluate " + state.name(), state.made(), EvaluateTest::askAll);
        }
    }

    private static void askAll(PodemTestGen x) {
        for (int node = -1; node <= x.nodeCount(); node++) {
            for (int v = -1; v <= Nets.vectors(x); v++) {
                x.evaluate(v, node);
            }
            for (int v : Edges.outside(Nets.vectors(x))) {
                x.evaluate(v, node);
            }
        }
        for (int node : Edges.outside(x.nodeCount())) {
            x.evaluate(0, node);
        }
    }
}
