/** Promise 9: isOutput. */
public final class IsOutputTest {
    public static void main(String[] args) {
        Check.sentence("`isOutput(node)` answers true if the node is marked as an output.", IsOutputTest::marked);
        Check.sentence("Answers false if it is not marked", IsOutputTest::notMarked);
        Check.sentence("or if node is out of range (node < 0 or node >= nodeCount).", IsOutputTest::outOfRange);
        Check.sentence("Changes nothing.", IsOutputTest::changesNothing);
        Check.end();
    }

    private static void marked() {
        PodemTestGen x = Nets.inverters(32, 10, 32);
        for (int n = 0; n < 32; n += 31) {
            x.markOutput(n);
            Check.due("isOutput(" + n + ")", x.isOutput(n), true);
        }
        for (int round = 0; round < 4; round++) {
            Check.due("isOutput(0) in round " + round, x.isOutput(0), true);
            Check.due("isOutput(31) in round " + round, x.isOutput(31), true);
            x.seal();
            x.nextTest();
        }
    }

    private static void notMarked() {
        PodemTestGen x = Nets.inverters(32, 10, 32);
        x.markOutput(16);
        for (int round = 0; round < 4; round++) {
            for (int n = 0; n < 32; n++) {
                Check.due("isOutput(" + n + ") in round " + round, x.isOutput(n), n == 16);
            }
            x.seal();
            x.nextTest();
            x.markOutput(0);
        }
    }

    private static void outOfRange() {
        for (States.State state : States.all()) {
            PodemTestGen x = state.made().get();
            for (int node : Edges.outside(x.nodeCount())) {
                Check.due("isOutput(" + node + ") " + state.name(), x.isOutput(node), false);
            }
        }
        // With every node marked, whatever is taken for a node would answer true.
        PodemTestGen all = Nets.inverters(32, 1, 32);
        for (int n = 0; n < 32; n++) {
            all.markOutput(n);
        }
        for (int node : Edges.outside(32)) {
            all.markOutput(node);
            Check.due("isOutput(" + node + ") with every node marked", all.isOutput(node), false);
        }
    }

    private static void changesNothing() {
        for (States.State state : States.all()) {
            Unchanged.by("isOutput " + state.name(), state.made(), IsOutputTest::askAll);
        }
    }

    private static void askAll(PodemTestGen x) {
        for (int node = 0; node < x.nodeCount(); node++) {
            x.isOutput(node);
        }
        for (int node : Edges.outside(x.nodeCount())) {
            x.isOutput(node);
        }
    }
}
