import java.util.ArrayList;
import java.util.List;
import java.util.function.Supplier;

/** Promise 2: addInput. */
public final class AddInputTest {
    private static final List<States.State> REFUSING = new ArrayList<>();

    public static void main(String[] args) {
        Check.sentence("1. sealed: answers -1;", AddInputTest::refusedWhenSealed);
        Check.sentence("2. nodeCount == nodeLimit: answers -1;", AddInputTest::refusedAtTheNodeLimit);
        Check.sentence("3. inputCount == inputLimit: answers -1.", AddInputTest::refusedAtTheInputLimit);
        Check.sentence("Tests, in order:", AddInputTest::refusedForSeveralReasons);
        Check.sentence("A refused call changes nothing.", AddInputTest::refusedChangesNothing);
        Check.sentence("Otherwise it appends an input node with ordinal inputCount, increments nodeCount and "
                + "inputCount, and answers the new node's index (the old nodeCount).",
            AddInputTest::appends);
        Check.sentence("The new node is not marked as output.", AddInputTest::newNodeIsNoOutput);
        Check.sentence("Existing nodes, outputs and tests do not change.", AddInputTest::keepsWhatStands);
        Check.end();
    }

    private static void refusedWhenSealed() {
        refused("sealed, with room for a node and an input", Nets::sealedWithRoom);
        for (States.State state : States.sealed()) {
            refused(state.name(), state.made());
        }
    }

    private static void refusedAtTheNodeLimit() {
        for (int limit = 8; limit <= 32; limit++) {
            int nodes = limit;
            PodemTestGen below = Nets.inverters(limit, 10, limit - 1);
            Check.due("addInput() one below node limit " + limit, below.addInput(), limit - 1);
            refused("at node limit " + limit, () -> Nets.inverters(nodes, 10, nodes));
        }
        refused("at node limit 8, with eight inputs of ten", () -> Nets.inputs(8, 10, 8));
    }

    private static void refusedAtTheInputLimit() {
        for (int limit = 1; limit <= 10; limit++) {
            int inputs = limit;
            PodemTestGen below = Nets.inputs(32, limit, limit - 1);
            Check.due("addInput() one below input limit " + limit, below.addInput(), limit - 1);
            refused("at input limit " + limit, () -> Nets.inputs(32, inputs, inputs));
        }
        refused("at input limit 10, after gates", () -> Nets.parity(10));
    }

    private static void refusedForSeveralReasons() {
        refused("at both limits", () -> Nets.inputs(8, 8, 8));
        refused("sealed, at the node limit", () -> Nets.sealedAt(Nets.inverters(8, 10, 8), 0));
        refused("sealed, at the input limit", () -> Nets.sealedAt(Nets.inputs(8, 2, 2), 0));
        refused("sealed, at both limits", () -> Nets.sealedAt(Nets.inputs(8, 8, 8), 0));
    }

    private static void refusedChangesNothing() {
        for (States.State state : REFUSING) {
            Unchanged.by("addInput() " + state.name(), state.made(), PodemTestGen::addInput);
        }
    }

    private static void refused(String when, Supplier<PodemTestGen> made) {
        PodemTestGen x = made.get();
        Check.due("addInput() " + when, x.addInput(), -1);
        Check.due("addInput() again, " + when, x.addInput(), -1);
        REFUSING.add(new States.State(when, made));
    }

    private static void appends() {
        PodemTestGen x = new PodemTestGen(32, 10);
        for (int k = 0; k < 10; k++) {
            Check.due("addInput() number " + k, x.addInput(), 2 * k);
            Check.due("nodeKind of input " + k, x.nodeKind(2 * k), PodemTestGen.KIND_INPUT);
            Check.due("nodeCount() with input " + k, x.nodeCount(), 2 * k + 1);
            Check.due("addGate between inputs", x.addGate(PodemTestGen.KIND_NOT, 2 * k, 0), 2 * k + 1);
            for (int v = 0; v < 2 << k; v++) {
                Check.due("input " + k + " under " + v, x.evaluate(v, 2 * k), v >> k & 1);
            }
            Check.due("simulate past the last vector", x.simulate(2 << k), -1);
        }
        for (int k = 0; k < 10; k++) {
            Check.due("input " + k + " alone", x.evaluate(1 << k, 2 * k), 1);
            Check.due("every input but " + k, x.evaluate(1023 - (1 << k), 2 * k), 0);
        }
    }

    private static void newNodeIsNoOutput() {
        PodemTestGen x = new PodemTestGen(8, 8);
        for (int n = 0; n < 8; n++) {
            x.markOutput(n);
            x.addInput();
            Check.due("isOutput of the new input " + n, x.isOutput(n), false);
            x.markOutput(n);
        }
    }

    private static void keepsWhatStands() {
        PodemTestGen x = Nets.inputs(8, 3, 1);
        x.addGate(PodemTestGen.KIND_NOT, 0, 0);
        x.markOutput(1);
        x.addInput();
        x.addGate(PodemTestGen.KIND_NOR, 1, 2);
        x.addInput();
        int[] kinds = {8, 1, 8, 5, 8};
        for (int n = 0; n < 5; n++) {
            Check.due("nodeKind(" + n + ")", x.nodeKind(n), kinds[n]);
            Check.due("isOutput(" + n + ")", x.isOutput(n), n == 1);
        }
        for (int v = 0; v < 8; v++) {
            int not = 1 - (v & 1);
            Check.due("the inverter under " + v, x.evaluate(v, 1), not);
            Check.due("the NOR under " + v, x.evaluate(v, 3), 1 - (not | v >> 1 & 1));
        }
        Check.due("testCount()", x.testCount(), 0);
        Check.due("testVector(0)", x.testVector(0), -1);
    }
}
