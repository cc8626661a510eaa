/** Promise 8: nodeKind. */
public final class NodeKindTest {
    public static void main(String[] args) {
        Check.sentence("`nodeKind(node)` answers KIND_INPUT for an input node, or the gate kind (0..7) for a gate.",
            NodeKindTest::kinds);
        Check.sentence("Answers -1 if node < 0 or node >= nodeCount.", NodeKindTest::outOfRange);
        Check.sentence("Works whether or not the netlist is sealed.", NodeKindTest::sealedOrNot);
        Check.sentence("Changes nothing.", NodeKindTest::changesNothing);
        Check.end();
    }

    private static void kinds() {
        PodemTestGen x = Nets.inputs(32, 3, 2);
        for (int kind = 0; kind <= 7; kind++) {
            x.addGate(kind, 1, 0);
        }
        x.addInput();
        int[] kinds = {8, 8, 0, 1, 2, 3, 4, 5, 6, 7, 8};
        for (int n = 0; n < kinds.length; n++) {
            Check.due("nodeKind(" + n + ")", x.nodeKind(n), kinds[n]);
        }
    }

    private static void outOfRange() {
        for (States.State state : States.all()) {
            PodemTestGen x = state.made().get();
            for (int node : Edges.outside(x.nodeCount())) {
                Check.due("nodeKind(" + node + ") " + state.name(), x.nodeKind(node), -1);
            }
            for (int node = 0; node < x.nodeCount(); node++) {
                Check.due("nodeKind(" + node + ") is told, " + state.name(), x.nodeKind(node) >= 0, true);
            }
        }
        PodemTestGen x = Nets.inputs(8, 2, 2);
        x.addGate(PodemTestGen.KIND_INPUT, 0, 0);
        x.addGate(PodemTestGen.KIND_XOR, 0, 2);
        x.addInput();
        Check.due("nodeKind(2) after refused calls", x.nodeKind(2), -1);
    }

    private static void sealedOrNot() {
        int[] kinds = {8, 8, 2, 1, 2, 4};
        PodemTestGen x = Nets.redundant();
        for (int round = 0; round < 8; round++) {
            for (int n = 0; n < 6; n++) {
                Check.due("nodeKind(" + n + ") in round " + round, x.nodeKind(n), kinds[n]);
            }
            x.seal();
            x.nextTest();
        }
    }

    private static void changesNothing() {
        for (States.State state : States.all()) {
            Unchanged.by("nodeKind " + state.name(), state.made(), NodeKindTest::askAll);
        }
    }

    private static void askAll(PodemTestGen x) {
        for (int node = 0; node < x.nodeCount(); node++) {
            x.nodeKind(node);
        }
        for (int node : Edges.outside(x.nodeCount())) {
            x.nodeKind(node);
        }
    }
}
