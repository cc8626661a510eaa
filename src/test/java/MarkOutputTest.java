/** Promise 4: markOutput. */
public final class MarkOutputTest {
    public static void main(String[] args) {
        marksOneNodeAlone();
        marksInputsAndEveryNode();
        refusals();
        Check.end();
    }

    private static void marksOneNodeAlone() {
        for (int node = 0; node < 5; node++) {
            PodemTestGen x = Nets.redundant();
            Check.due("markOutput(" + node + ")", x.markOutput(node), true);
            for (int n = 0; n < 6; n++) {
                Check.due("isOutput(" + n + ") after markOutput(" + node + ")", x.isOutput(n), n == node || n == 5);
            }
            Check.due("nodeCount()", x.nodeCount(), 6);
        }
    }

    private static void marksInputsAndEveryNode() {
        PodemTestGen x = new PodemTestGen(32, 10);
        x.addInput();
        for (int n = 1; n < 32; n++) {
            x.addGate(PodemTestGen.KIND_NOT, n - 1, 0);
        }
        for (int n = 31; n >= 0; n--) {
            Check.due("markOutput(" + n + ")", x.markOutput(n), true);
        }
        refused(x, 0, "marked");
        refused(x, 31, "marked");
        refused(x, 32, "out of range");
    }

    private static void refusals() {
        PodemTestGen empty = new PodemTestGen(8, 1);
        refused(empty, 0, "on an empty netlist");
        PodemTestGen x = Nets.redundant();
        refused(x, 5, "already marked");
        refused(x, 6, "one past the end");
        for (int node : Nets.WRONG) {
            refused(x, node, "out of range");
        }
        x.seal();
        x.nextTest();
        for (int node = -1; node < 7; node++) {
            refused(x, node, "when sealed");
        }
    }

    private static void refused(PodemTestGen x, int node, String when) {
        String before = Picture.of(x);
        Check.due("markOutput(" + node + ") " + when, x.markOutput(node), false);
        Check.due("state after markOutput(" + node + ") " + when, Picture.of(x), before);
    }
}
