import java.util.ArrayList;
import java.util.List;
import java.util.function.Supplier;

/** Promise 4: markOutput. */
public final class MarkOutputTest {
    private record Refusal(String call, Supplier<PodemTestGen> made, int node) {
    }

    private static final List<Refusal> REFUSALS = new ArrayList<>();

    public static void main(String[] args) {
        Check.sentence("1. sealed: answers false;", MarkOutputTest::refusedWhenSealed);
        Check.sentence("2. node < 0 or node >= nodeCount: answers false;", MarkOutputTest::refusedOutOfRange);
        Check.sentence("3. node is already marked: answers false.", MarkOutputTest::refusedWhenMarked);
        Check.sentence("Tests, in order:", MarkOutputTest::refusedForSeveralReasons);
        Check.sentence("A refused call changes nothing.", MarkOutputTest::refusedChangesNothing);
        Check.sentence("Otherwise it marks the node and answers true.", MarkOutputTest::marks);
        Check.sentence("No other node's marking changes, and no node is added.", MarkOutputTest::marksOneNodeAlone);
        Check.end();
    }

    private static void refusedWhenSealed() {
        refused("sealed, not marked", Nets::sealedWithRoom, 0);
        for (States.State state : States.sealed()) {
            for (int node = 0; node < state.made().get().nodeCount(); node++) {
                refused(state.name(), state.made(), node);
            }
        }
    }

    private static void refusedOutOfRange() {
        for (States.State state : States.open()) {
            for (int node : Edges.outside(state.made().get().nodeCount())) {
                refused(state.name(), state.made(), node);
            }
        }
    }

    private static void refusedWhenMarked() {
        refused("marked", Nets::redundant, 5);
        for (int node = 0; node < 32; node += 31) {
            refused("all marked", MarkOutputTest::allMarked, node);
        }
        for (int node = 0; node < 6; node++) {
            PodemTestGen x = Nets.redundant();
            x.markOutput(node);
            Check.due("markOutput(" + node + ") a second time", x.markOutput(node), false);
            Check.due("markOutput(" + node + ") a third time", x.markOutput(node), false);
        }
    }

    private static void refusedForSeveralReasons() {
        refused("sealed and marked", Nets::sealedWithRoom, 1);
        for (int node : Edges.outside(2)) {
            refused("sealed and out of range", Nets::sealedWithRoom, node);
        }
    }

    private static void refusedChangesNothing() {
        for (Refusal r : REFUSALS) {
            Unchanged.by(r.call(), r.made(), x -> x.markOutput(r.node()));
        }
        PodemTestGen x = new PodemTestGen(8, 1);
        x.markOutput(0);
        x.addInput();
        Check.due("isOutput(0) after markOutput(0) on an empty netlist", x.isOutput(0), false);
        Check.due("seal() after markOutput(0) on an empty netlist", x.seal(), false);
    }

    private static void refused(String when, Supplier<PodemTestGen> made, int node) {
        String call = "markOutput(" + node + ") " + when;
        Check.due(call, made.get().markOutput(node), false);
        REFUSALS.add(new Refusal(call, made, node));
    }

    private static void marks() {
        PodemTestGen x = Nets.inverters(32, 10, 32);
        for (int n = 31; n >= 0; n--) {
            Check.due("isOutput(" + n + ") at first", x.isOutput(n), false);
            Check.due("markOutput(" + n + ")", x.markOutput(n), true);
            Check.due("isOutput(" + n + ")", x.isOutput(n), true);
        }
    }

    private static void marksOneNodeAlone() {
        for (int node = 0; node < 5; node++) {
            PodemTestGen x = Nets.redundant();
            x.markOutput(node);
            for (int n = 0; n < 6; n++) {
                Check.due("isOutput(" + n + ") after markOutput(" + node + ")", x.isOutput(n), n == node || n == 5);
            }
            Check.due("nodeCount()", x.nodeCount(), 6);
            Check.due("nodeKind(6)", x.nodeKind(6), -1);
            Check.due("the next node", x.addGate(PodemTestGen.KIND_NOT, 0, 0), 6);
        }
    }

    private static PodemTestGen allMarked() {
        PodemTestGen x = Nets.inverters(32, 10, 32);
        for (int n = 0; n < 32; n++) {
            x.markOutput(n);
        }
        return x;
    }
}
