/** The sentences of the section "Terms" that the promises rest on. */
public final class TermsTest {
    public static void main(String[] args) {
        Check.sentence("Nodes get indices 0, 1, 2, ... in the order they are added.", TermsTest::nodeIndices);
        Check.sentence("The k-th input added (k = 0, 1, ...) has input ordinal k.", TermsTest::inputOrdinals);
        Check.sentence("A vector is an int v with 0 <= v < (1 << inputCount).", TermsTest::vectorRange);
        Check.sentence("Input ordinal k takes the value (v >> k) & 1.", TermsTest::vectorBits);
        Check.sentence("Any other int, including every negative int, is out of range.", TermsTest::vectorsOutOfRange);
        Check.sentence("With inputCount = 0 the only vector in range is 0.", TermsTest::theOnlyVectorWithoutInputs);
        Check.sentence("Both operands of a gate may be the same node.", TermsTest::sameOperandTwice);
        Check.sentence("Fault index f = 2*n + s, with node n in [0, nodeCount) and s in {0, 1}.",
            TermsTest::faultIndices);
        Check.sentence("There are 2*nodeCount faults (at most 64).", TermsTest::faultTotal);
        Check.sentence("This is the good evaluation, except that node n's value is replaced by s. This holds for an "
                + "input node too.",
            TermsTest::stuckInputs);
        Check.sentence("Every gate reading n sees s.", TermsTest::stuckNodesAreSeen);
        Check.sentence("v detects f when some node marked as an output has a different value",
            TermsTest::someOutputDiffers);
        Check.sentence("With no node marked as output, no vector detects any fault.", TermsTest::noOutputs);
        Check.sentence("Only after `seal()`, each fault has one of `STATUS_UNTRIED`, `STATUS_DETECTED` or "
                + "`STATUS_UNTESTABLE`, and a detecting test index `detectedBy` (-1 when none).",
            TermsTest::statusesOnlyWhenSealed);
        Check.sentence("A test is a recorded pair (vector, target fault), indexed 0, 1, ... in the order recorded.",
            TermsTest::testsInOrder);
        Check.end();
    }

    private static void nodeIndices() {
        PodemTestGen x = new PodemTestGen(32, 10);
        for (int n = 0; n < 32; n++) {
            boolean input = n % 4 == 0;
            Check.due("index of node " + n, input ? x.addInput() : x.addGate(n % 8, n - 1, 0), n);
            Check.due("kind of node " + n, x.nodeKind(n), input ? PodemTestGen.KIND_INPUT : n % 8);
            x.addGate(PodemTestGen.KIND_INPUT, 0, 0);
        }
    }

    private static void inputOrdinals() {
        PodemTestGen x = Nets.inputs(32, 10, 1);
        for (int k = 1; k < 10; k++) {
            x.addGate(PodemTestGen.KIND_XNOR, 0, 0);
            x.addInput();
        }
        for (int k = 0; k < 10; k++) {
            for (int j = 0; j < 10; j++) {
                Check.due("input " + j + " under the bit of " + k, x.evaluate(1 << k, 2 * j), j == k ? 1 : 0);
            }
        }
    }

    private static void vectorRange() {
        for (int inputs = 0; inputs <= 10; inputs++) {
            PodemTestGen x = Nets.inputs(32, 10, inputs);
            for (int v = -3; v <= 1 << 11; v++) {
                boolean vector = v >= 0 && v < 1 << inputs;
                Check.due("simulate(" + v + ") with " + inputs + " inputs", x.simulate(v), vector ? 0 : -1);
            }
        }
    }

    private static void vectorBits() {
        PodemTestGen x = Nets.inputs(32, 10, 10);
        for (int v = 0; v < 1024; v++) {
            for (int k = 0; k < 10; k++) {
                Check.due("input " + k + " under " + v, x.evaluate(v, k), v >> k & 1);
            }
        }
    }

    private static void vectorsOutOfRange() {
        for (int inputs = 1; inputs <= 10; inputs++) {
            PodemTestGen x = Nets.parity(inputs);
            for (int v : Edges.outside(1 << inputs)) {
                vectorIsOut(x, v);
            }
            for (int bit = inputs; bit < 32; bit++) {
                // Cut to the inputs' bits, each of these would be a vector in range.
                for (int low = 0; low < 1 << inputs; low += 1 + low) {
                    vectorIsOut(x, low | 1 << bit);
                    vectorIsOut(x, low | -1 << bit);
                }
            }
        }
    }

    private static void vectorIsOut(PodemTestGen x, int v) {
        Check.due("simulate(" + v + ")", x.simulate(v), -1);
        Check.due("evaluate(" + v + ", 0)", x.evaluate(v, 0), -1);
        Check.due("detects(" + v + ", 0)", x.detects(v, 0), false);
        Check.due("detects(" + v + ", 1)", x.detects(v, 1), false);
    }

    private static void theOnlyVectorWithoutInputs() {
        PodemTestGen x = new PodemTestGen(32, 10);
        Check.due("simulate(0)", x.simulate(0), 0);
        for (int v : Edges.outside(1)) {
            Check.due("simulate(" + v + ")", x.simulate(v), -1);
        }
        for (int node = -1; node <= 1; node++) {
            Check.due("evaluate(0, " + node + "): there is no node", x.evaluate(0, node), -1);
            Check.due("detects(0, " + node + "): there is no fault", x.detects(0, node), false);
        }
    }

    private static void sameOperandTwice() {
        String[] values = {"01", "10", "01", "10", "01", "10", "00", "11"};
        for (int kind = 0; kind <= 7; kind++) {
            PodemTestGen x = Nets.inputs(8, 2, 2);
            x.addGate(kind, 1, 1);
            x.markOutput(2);
            Check.due("kind " + kind + " of input 1 twice, 0", x.evaluate(0, 2), values[kind].charAt(0) - '0');
            Check.due("kind " + kind + " of input 1 twice, 1", x.evaluate(2, 2), values[kind].charAt(1) - '0');
            // Both operands are stuck together, so an XOR of them shows nothing.
            Check.due("input 1 stuck at 1 shows through kind " + kind, x.detects(0, 3), kind < 6);
        }
    }

    private static void faultIndices() {
        PodemTestGen x = Nets.inverters(32, 1, 32);
        for (int n = 0; n < 32; n++) {
            x.markOutput(n);
        }
        for (int n = 0; n < 32; n++) {
            for (int v = 0; v < 2; v++) {
                int good = n == 0 ? v : 1 - v;
                Check.due("node " + n + " stuck at its good value under " + v, x.detects(v, 2 * n + good), false);
                Check.due("node " + n + " stuck at the other value under " + v, x.detects(v, 2 * n + 1 - good), true);
            }
        }
    }

    private static void faultTotal() {
        for (int nodes = 1; nodes <= 32; nodes++) {
            PodemTestGen x = Nets.sealedAt(Nets.inverters(32, 1, nodes), nodes - 1);
            for (int f = -1; f <= 66; f++) {
                boolean fault = f >= 0 && f < 2 * nodes;
                Check.due("faultStatus(" + f + ") of " + nodes + " nodes", x.faultStatus(f), fault ? 0 : -1);
            }
        }
    }

    private static void stuckInputs() {
        for (int inputs = 1; inputs <= 10; inputs++) {
            PodemTestGen x = Nets.inputs(32, 10, inputs);
            for (int n = 0; n < inputs; n++) {
                x.markOutput(n);
            }
            for (int v = 0; v < 1 << inputs; v++) {
                for (int f = 0; f < 2 * inputs; f++) {
                    Check.due("detects(" + v + ", " + f + ")", x.detects(v, f), (v >> f / 2 & 1) != f % 2);
                }
            }
        }
    }

    private static void stuckNodesAreSeen() {
        PodemTestGen x = Nets.inputs(32, 1, 1);
        for (int n = 1; n < 32; n++) {
            x.addGate(n % 2, n - 1, 0);
        }
        x.markOutput(31);
        for (int n = 0; n < 32; n++) {
            for (int v = 0; v < 2; v++) {
                int good = x.evaluate(v, n);
                Check.due("node " + n + " stuck, seen at the chain's end", x.detects(v, 2 * n + 1 - good), true);
                Check.due("node " + n + " stuck at its good value", x.detects(v, 2 * n + good), false);
            }
        }
    }

    private static void someOutputDiffers() {
        for (int output = 1; output < 32; output++) {
            PodemTestGen x = Nets.inverters(32, 1, 32);
            x.markOutput(output);
            for (int n = 1; n < 32; n++) {
                Check.due("node " + n + " stuck at 0 with output " + output, x.detects(0, 2 * n), n == output);
                Check.due("node " + n + " stuck at 1 with output " + output, x.detects(1, 2 * n + 1), n == output);
            }
        }
    }

    private static void noOutputs() {
        for (int inputs = 1; inputs <= 10; inputs++) {
            PodemTestGen x = Nets.inputs(32, 10, inputs);
            x.addGate(PodemTestGen.KIND_XOR, 0, inputs - 1);
            for (int v = 0; v < 1 << inputs; v++) {
                for (int f = 0; f < 2 * x.nodeCount(); f++) {
                    Check.due("detects(" + v + ", " + f + ")", x.detects(v, f), false);
                }
                Check.due("simulate(" + v + ")", x.simulate(v), 0);
            }
            x.markOutput(0);
            Check.due("detects(0, 1) once node 0 is marked", x.detects(0, 1), true);
        }
    }

    private static void statusesOnlyWhenSealed() {
        for (States.State state : States.open()) {
            PodemTestGen x = state.made().get();
            for (int f = 0; f < 64; f++) {
                Check.due("faultStatus(" + f + ") " + state.name(), x.faultStatus(f), -1);
                Check.due("detectedBy(" + f + ") " + state.name(), x.detectedBy(f), -1);
            }
        }
        for (States.State state : States.sealed()) {
            PodemTestGen x = state.made().get();
            for (int f = 0; f < 2 * x.nodeCount(); f++) {
                int status = x.faultStatus(f);
                Check.due("faultStatus(" + f + ") is one of three, " + state.name(), status >= 0 && status <= 2, true);
                Check.due("detectedBy(" + f + ") is none, " + state.name(), x.detectedBy(f) == -1, status != 1);
            }
        }
    }

    private static void testsInOrder() {
        PodemTestGen x = Nets.sealedAt(Nets.chain(PodemTestGen.KIND_OR, 10), 18);
        Check.due("testVector(0)", Nets.after(x, 1).testVector(0), 1);
        Check.due("testVector(1)", Nets.after(x, 1).testVector(1), 0);
        for (int k = 1; k < 10; k++) {
            x.nextTest();
            Check.due("testVector of input " + k, x.testVector(k + 1), 1 << k);
            Check.due("testTarget of input " + k, x.testTarget(k + 1), 2 * k);
        }
        Check.due("testCount()", x.testCount(), 11);
    }
}
