/** Promise 14: evaluate. */
public final class EvaluateTest {
    public static void main(String[] args) {
        truthTables();
        parities();
        vectorRangeGrowsWithTheInputs();
        outOfRange();
        Check.end();
    }

    private static void truthTables() {
        int[][] tables = {
            {0, 1, 0, 1}, {1, 0, 1, 0}, {0, 0, 0, 1}, {1, 1, 1, 0},
            {0, 1, 1, 1}, {1, 0, 0, 0}, {0, 1, 1, 0}, {1, 0, 0, 1}};
        for (int kind = 0; kind <= 7; kind++) {
            PodemTestGen x = Nets.oneGate(kind);
            for (int sealed = 0; sealed < 2; sealed++) {
                for (int v = 0; v < 4; v++) {
                    Check.due("kind " + kind + " under " + v, x.evaluate(v, 2), tables[kind][v]);
                    Check.due("input 0 under " + v, x.evaluate(v, 0), v & 1);
                    Check.due("input 1 under " + v, x.evaluate(v, 1), v >> 1);
                }
                x.seal();
            }
        }
    }

    private static void parities() {
        PodemTestGen x = Nets.parity(10);
        for (int v = 0; v < 1024; v++) {
            Check.due("parity of " + v, x.evaluate(v, 18), Integer.bitCount(v) % 2);
            Check.due("input 9 under " + v, x.evaluate(v, 9), v >> 9);
        }
        Check.due("evaluate(1024, 0)", x.evaluate(1024, 0), -1);
    }

    private static void vectorRangeGrowsWithTheInputs() {
        PodemTestGen x = new PodemTestGen(32, 10);
        Check.due("evaluate(0, 0) without nodes", x.evaluate(0, 0), -1);
        for (int inputs = 1; inputs <= 10; inputs++) {
            x.addInput();
            int end = 1 << inputs;
            Check.due("evaluate of the last vector", x.evaluate(end - 1, inputs - 1), 1);
            Check.due("evaluate of vector 0", x.evaluate(0, inputs - 1), 0);
            Check.due("evaluate one past the last vector", x.evaluate(end, inputs - 1), -1);
            Check.due("evaluate one past the last node", x.evaluate(0, inputs), -1);
        }
    }

    private static void outOfRange() {
        PodemTestGen x = Nets.redundant();
        x.seal();
        x.nextTest();
        String before = Picture.of(x);
        for (int wrong : Nets.WRONG) {
            Check.due("evaluate(" + wrong + ", 5)", x.evaluate(wrong, 5), -1);
            Check.due("evaluate(3, " + wrong + ")", x.evaluate(3, wrong), -1);
            Check.due("evaluate twice " + wrong, x.evaluate(wrong, wrong), -1);
        }
        Check.due("evaluate(3, 6)", x.evaluate(3, 6), -1);
        Check.due("evaluate(4, 5)", x.evaluate(4, 5), -1);
        Check.due("evaluate(3, 5)", x.evaluate(3, 5), 1);
        Check.due("state after evaluate", Picture.of(x), before);
    }
}
