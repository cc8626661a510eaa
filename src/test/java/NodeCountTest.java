/** Promise 7: nodeCount. */
public final class NodeCountTest {
    public static void main(String[] args) {
        Check.sentence("`nodeCount()` answers the number of nodes", NodeCountTest::counts);
        Check.sentence("in [0, nodeLimit].", NodeCountTest::staysInItsRange);
        Check.sentence("Changes nothing.", NodeCountTest::changesNothing);
        Check.end();
    }

    private static void counts() {
        PodemTestGen x = new PodemTestGen(10, 2);
        Check.due("nodeCount() at first", x.nodeCount(), 0);
        x.addInput();
        Check.due("nodeCount() with an input", x.nodeCount(), 1);
        x.addGate(PodemTestGen.KIND_NOT, 0, 0);
        Check.due("nodeCount() with a gate", x.nodeCount(), 2);
        x.addGate(PodemTestGen.KIND_INPUT, 0, 0);
        x.addGate(PodemTestGen.KIND_AND, 0, 2);
        x.markOutput(2);
        x.seal();
        Check.due("nodeCount() after refused calls", x.nodeCount(), 2);
        x.addInput();
        x.addInput();
        Check.due("nodeCount() at the input limit", x.nodeCount(), 3);
        x.markOutput(1);
        Check.due("nodeCount() after markOutput", x.nodeCount(), 3);
        x.seal();
        Check.due("nodeCount() after seal", x.nodeCount(), 3);
        x.nextTest();
        x.addInput();
        x.addGate(PodemTestGen.KIND_NOT, 0, 0);
        Check.due("nodeCount() after calls on a sealed netlist", x.nodeCount(), 3);
    }

    private static void staysInItsRange() {
        for (int limit = 8; limit <= 32; limit++) {
            PodemTestGen x = new PodemTestGen(limit, 10);
            for (int n = 0; n < 40; n++) {
                Check.due("nodeCount() with limit " + limit, x.nodeCount(), Math.min(n, limit));
                if (n % 4 == 0) {
                    x.addInput();
                } else {
                    x.addGate(PodemTestGen.KIND_BUF, 0, 0);
                }
            }
        }
    }

    private static void changesNothing() {
        for (States.State state : States.all()) {
            Unchanged.by("nodeCount() " + state.name(), state.made(), PodemTestGen::nodeCount);
        }
    }
}
