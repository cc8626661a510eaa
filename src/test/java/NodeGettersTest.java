/** Promises 7, 8 and 9: nodeCount, nodeKind and isOutput. */
public final class NodeGettersTest {
    public static void main(String[] args) {
        counts();
        PodemTestGen x = Nets.redundant();
        kindsAndOutputs(x, "before seal()");
        x.seal();
        kindsAndOutputs(x, "after seal()");
        x.nextTest();
        kindsAndOutputs(x, "after nextTest()");
        Check.end();
    }

    private static void counts() {
        PodemTestGen x = new PodemTestGen(10, 2);
        Check.due("nodeCount() at first", x.nodeCount(), 0);
        x.addInput();
        Check.due("nodeCount() with an input", x.nodeCount(), 1);
        for (int n = 1; n < 14; n++) {
            x.addGate(PodemTestGen.KIND_NOT, 0, 0);
            Check.due("nodeCount() on the way to 10", x.nodeCount(), Math.min(n + 1, 10));
        }
        x.markOutput(9);
        Check.due("nodeCount() after markOutput", x.nodeCount(), 10);
        x.seal();
        Check.due("nodeCount() after seal", x.nodeCount(), 10);
    }

    private static void kindsAndOutputs(PodemTestGen x, String when) {
        String before = Picture.of(x);
        int[] kinds = {8, 8, 2, 1, 2, 4};
        for (int n = 0; n < 6; n++) {
            Check.due("nodeKind(" + n + ") " + when, x.nodeKind(n), kinds[n]);
            Check.due("isOutput(" + n + ") " + when, x.isOutput(n), n == 5);
        }
        Check.due("nodeKind(6) " + when, x.nodeKind(6), -1);
        Check.due("isOutput(6) " + when, x.isOutput(6), false);
        for (int n : Nets.WRONG) {
            Check.due("nodeKind(" + n + ") " + when, x.nodeKind(n), -1);
            Check.due("isOutput(" + n + ") " + when, x.isOutput(n), false);
        }
        Check.due("nodeCount() " + when, x.nodeCount(), 6);
        Check.due("state after the getters " + when, Picture.of(x), before);
    }
}
