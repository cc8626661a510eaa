/** Promise 2: addInput. */
public final class AddInputTest {
    public static void main(String[] args) {
        ordinalsFollowTheInputsOnly();
        keepsWhatStands();
        refusesWhenSealed();
        refusesAtTheNodeLimit();
        refusesAtTheInputLimit();
        Check.end();
    }

    private static void ordinalsFollowTheInputsOnly() {
        PodemTestGen x = new PodemTestGen(8, 3);
        Check.due("first addInput()", x.addInput(), 0);
        Check.due("addGate between inputs", x.addGate(PodemTestGen.KIND_NOT, 0, 0), 1);
        Check.due("addInput() after a gate", x.addInput(), 2);
        Check.due("third addInput()", x.addInput(), 3);
        Check.due("nodeCount()", x.nodeCount(), 4);
        for (int v = 0; v < 8; v++) {
            Check.due("input 0 under " + v, x.evaluate(v, 0), v & 1);
            Check.due("input 1 under " + v, x.evaluate(v, 2), v >> 1 & 1);
            Check.due("input 2 under " + v, x.evaluate(v, 3), v >> 2 & 1);
        }
        Check.due("evaluate(8, 0) with three inputs", x.evaluate(8, 0), -1);
    }

    private static void keepsWhatStands() {
        PodemTestGen x = new PodemTestGen(8, 3);
        x.addInput();
        x.addGate(PodemTestGen.KIND_NOT, 0, 0);
        x.markOutput(1);
        x.addInput();
        Check.due("kind of the new node", x.nodeKind(2), PodemTestGen.KIND_INPUT);
        Check.due("new input is an output", x.isOutput(2), false);
        Check.due("old output stays one", x.isOutput(1), true);
        Check.due("old input is no output", x.isOutput(0), false);
        Check.due("old input's kind", x.nodeKind(0), PodemTestGen.KIND_INPUT);
        Check.due("old gate's kind", x.nodeKind(1), PodemTestGen.KIND_NOT);
        Check.due("old gate's value", x.evaluate(2, 1), 1);
        Check.due("testCount()", x.testCount(), 0);
    }

    private static void refusesWhenSealed() {
        PodemTestGen x = Nets.redundant();
        x.seal();
        x.nextTest();
        refused(x, "sealed");
    }

    private static void refusesAtTheNodeLimit() {
        PodemTestGen x = new PodemTestGen(8, 10);
        for (int n = 0; n < 8; n++) {
            Check.due("addInput() below the node limit", x.addInput(), n);
        }
        refused(x, "at the node limit");
        PodemTestGen y = new PodemTestGen(32, 10);
        y.addInput();
        for (int n = 1; n < 32; n++) {
            y.addGate(PodemTestGen.KIND_BUF, 0, 0);
        }
        refused(y, "at the greatest node limit");
    }

    private static void refusesAtTheInputLimit() {
        PodemTestGen x = new PodemTestGen(32, 10);
        for (int n = 0; n < 10; n++) {
            Check.due("addInput() below the input limit", x.addInput(), n);
        }
        refused(x, "at the input limit");
        Check.due("a gate still fits", x.addGate(PodemTestGen.KIND_AND, 0, 9), 10);
        refused(x, "at the input limit, after a gate");
    }

    private static void refused(PodemTestGen x, String when) {
        String before = Picture.of(x);
        Check.due("addInput() " + when, x.addInput(), -1);
        Check.due("state after a refused addInput() " + when, Picture.of(x), before);
    }
}
