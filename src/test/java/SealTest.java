import java.util.ArrayList;
import java.util.List;
import java.util.function.Supplier;

/** Promise 5: seal. */
public final class SealTest {
    private static final List<States.State> REFUSING = new ArrayList<>();

    public static void main(String[] args) {
        Check.sentence("1. already sealed: answers false;", SealTest::refusedWhenSealed);
        Check.sentence("2. inputCount == 0: answers false;", SealTest::refusedWithoutInputs);
        Check.sentence("3. no node is marked as output: answers false.", SealTest::refusedWithoutOutputs);
        Check.sentence("A refused call changes nothing.", SealTest::refusedChangesNothing);
        Check.sentence("and the call answers true.", SealTest::seals);
        Check.sentence("every fault 0..2*nodeCount-1 gets STATUS_UNTRIED with detectedBy -1, testCount is 0",
            SealTest::untriedAtFirst);
        Check.sentence("From then on `addInput`, `addGate` and `markOutput` refuse every call", SealTest::freezes);
        Check.sentence("so nodes, kinds, operands, inputCount and outputs stay fixed for the life of the object.",
            SealTest::staysFixed);
        Check.end();
    }

    private static void refusedWhenSealed() {
        for (States.State state : States.sealed()) {
            refused(state.name(), state.made());
        }
    }

    private static void refusedWithoutInputs() {
        refused("on an empty netlist", () -> new PodemTestGen(8, 1));
        refused("on an empty netlist", () -> new PodemTestGen(32, 10));
        refused("after refused gates and marks", SealTest::refusedGatesAndMarks);
        PodemTestGen x = Nets.inputs(8, 1, 1);
        x.markOutput(0);
        Check.due("seal() with one input", x.seal(), true);
    }

    private static void refusedWithoutOutputs() {
        for (int inputs = 1; inputs <= 10; inputs++) {
            int made = inputs;
            refused("with " + inputs + " inputs alone", () -> Nets.inputs(32, 10, made));
        }
        refused("with gates, none marked", () -> Nets.inverters(8, 1, 8));
        refused("with 32 nodes, none marked", () -> Nets.inverters(32, 1, 32));
        refused("after refused marks", SealTest::refusedMarks);
        for (int node = 0; node < 32; node++) {
            PodemTestGen x = Nets.inverters(32, 1, 32);
            x.markOutput(node);
            Check.due("seal() with output " + node + " alone", x.seal(), true);
        }
    }

    private static PodemTestGen refusedGatesAndMarks() {
        PodemTestGen x = new PodemTestGen(8, 1);
        x.addGate(PodemTestGen.KIND_NOT, 0, 0);
        x.markOutput(0);
        return x;
    }

    private static PodemTestGen refusedMarks() {
        PodemTestGen x = Nets.inverters(8, 2, 3);
        x.markOutput(-1);
        x.markOutput(3);
        return x;
    }

    private static void refusedChangesNothing() {
        for (States.State state : REFUSING) {
            Unchanged.by("seal() " + state.name(), state.made(), PodemTestGen::seal);
        }
        PodemTestGen x = new PodemTestGen(8, 2);
        x.seal();
        Check.due("addInput() after a refused seal()", x.addInput(), 0);
        x.seal();
        Check.due("addGate after a refused seal()", x.addGate(PodemTestGen.KIND_NOT, 0, 0), 1);
        x.seal();
        Check.due("faultStatus(0) after a refused seal()", x.faultStatus(0), -1);
        Check.due("markOutput after a refused seal()", x.markOutput(1), true);
        Check.due("seal() at last", x.seal(), true);
    }

    private static void refused(String when, Supplier<PodemTestGen> made) {
        PodemTestGen x = made.get();
        Check.due("seal() " + when, x.seal(), false);
        Check.due("seal() again, " + when, x.seal(), false);
        REFUSING.add(new States.State(when, made));
    }

    private static void seals() {
        Check.due("seal() of one node", sealable(Nets.inputs(8, 1, 1), 0).seal(), true);
        Check.due("seal() of ten inputs", sealable(Nets.inputs(32, 10, 10), 9).seal(), true);
        Check.due("seal() of 32 nodes", sealable(Nets.inverters(32, 1, 32), 31).seal(), true);
    }

    private static PodemTestGen sealable(PodemTestGen x, int output) {
        x.markOutput(output);
        return x;
    }

    private static void untriedAtFirst() {
        for (int nodes = 1; nodes <= 32; nodes++) {
            PodemTestGen x = Nets.sealedAt(Nets.inverters(32, 1, nodes), nodes - 1);
            for (int f = 0; f < 2 * nodes; f++) {
                int status = x.faultStatus(f);
                Check.due("faultStatus(" + f + ") of " + nodes + " nodes", status, PodemTestGen.STATUS_UNTRIED);
                Check.due("detectedBy(" + f + ") of " + nodes + " nodes", x.detectedBy(f), -1);
            }
            Check.due("faultStatus past the last", x.faultStatus(2 * nodes), -1);
            Check.due("testCount()", x.testCount(), 0);
            Check.due("testVector(0)", x.testVector(0), -1);
        }
    }

    private static void freezes() {
        PodemTestGen x = Nets.sealedWithRoom();
        for (int i = 0; i < 70; i++) {
            Check.due("addInput() when sealed", x.addInput(), -1);
            for (int kind = -1; kind <= 8; kind++) {
                Check.due("addGate of kind " + kind + " when sealed", x.addGate(kind, 0, 1), -1);
            }
            for (int node = -1; node <= 2; node++) {
                Check.due("markOutput(" + node + ") when sealed", x.markOutput(node), false);
            }
            x.nextTest();
        }
    }

    private static void staysFixed() {
        PodemTestGen x = Nets.sealedAt(Nets.redundant(), 5);
        for (int i = 0; i < 20; i++) {
            x.addInput();
            x.addGate(i % 8, 1, 0);
            x.markOutput(i % 6);
            x.seal();
            x.nextTest();
            int[] kinds = {8, 8, 2, 1, 2, 4};
            for (int n = 0; n < 6; n++) {
                Check.due("nodeKind(" + n + ")", x.nodeKind(n), kinds[n]);
                Check.due("isOutput(" + n + ")", x.isOutput(n), n == 5);
            }
            Check.due("nodeCount()", x.nodeCount(), 6);
            Check.due("simulate(4)", x.simulate(4), -1);
            for (int v = 0; v < 4; v++) {
                Check.due("evaluate(" + v + ", 5)", x.evaluate(v, 5), v == 3 ? 1 : 0);
                Check.due("evaluate(" + v + ", 3)", x.evaluate(v, 3), 1 - (v & 1));
            }
        }
    }
}
