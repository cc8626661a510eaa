/** Promise 3: addGate. */
public final class AddGateTest {
    public static void main(String[] args) {
        everyKind();
        secondOperandOfOneInputGates();
        sameOperandTwice();
        operandsKeepTheirPlaces();
        keepsWhatStands();
        refusesWrongKinds();
        refusesWrongOperands();
        refusesAtTheLimitAndWhenSealed();
        Check.end();
    }

    private static void everyKind() {
        PodemTestGen x = new PodemTestGen(32, 2);
        x.addInput();
        x.addInput();
        for (int kind = 0; kind <= 7; kind++) {
            Check.due("addGate of kind " + kind, x.addGate(kind, 0, 1), 2 + kind);
            Check.due("nodeKind", x.nodeKind(2 + kind), kind);
            Check.due("nodeCount()", x.nodeCount(), 3 + kind);
            Check.due("isOutput of a new gate", x.isOutput(2 + kind), false);
        }
        Check.due("evaluate(4, 0): gates add no input", x.evaluate(4, 0), -1);
        Check.due("evaluate(3, 0)", x.evaluate(3, 0), 1);
    }

    private static void secondOperandOfOneInputGates() {
        int[] any = {-1, 1, 2, 3, 99, Integer.MIN_VALUE, Integer.MAX_VALUE};
        for (int b : any) {
            PodemTestGen x = new PodemTestGen(8, 2);
            x.addInput();
            x.addInput();
            Check.due("BUF with b = " + b, x.addGate(PodemTestGen.KIND_BUF, 0, b), 2);
            Check.due("NOT with b = " + b, x.addGate(PodemTestGen.KIND_NOT, 0, b), 3);
            for (int v = 0; v < 4; v++) {
                Check.due("BUF's value under " + v, x.evaluate(v, 2), v & 1);
                Check.due("NOT's value under " + v, x.evaluate(v, 3), 1 - (v & 1));
            }
        }
    }

    private static void sameOperandTwice() {
        int[][] values = {{0, 1}, {1, 0}, {0, 1}, {1, 0}, {0, 1}, {1, 0}, {0, 0}, {1, 1}};
        for (int kind = 0; kind <= 7; kind++) {
            PodemTestGen x = new PodemTestGen(8, 1);
            x.addInput();
            Check.due("addGate(" + kind + ", 0, 0)", x.addGate(kind, 0, 0), 1);
            Check.due("kind " + kind + " of 0 and 0", x.evaluate(0, 1), values[kind][0]);
            Check.due("kind " + kind + " of 1 and 1", x.evaluate(1, 1), values[kind][1]);
        }
    }

    private static void operandsKeepTheirPlaces() {
        PodemTestGen x = new PodemTestGen(8, 3);
        x.addInput();
        x.addInput();
        x.addInput();
        x.addGate(PodemTestGen.KIND_AND, 2, 0);
        x.addGate(PodemTestGen.KIND_OR, 3, 1);
        for (int v = 0; v < 8; v++) {
            int and = v >> 2 & v & 1;
            Check.due("AND of inputs 2 and 0 under " + v, x.evaluate(v, 3), and);
            Check.due("OR of that and input 1 under " + v, x.evaluate(v, 4), and | (v >> 1 & 1));
        }
    }

    private static void keepsWhatStands() {
        PodemTestGen x = Nets.oneGate(PodemTestGen.KIND_NAND);
        x.addGate(PodemTestGen.KIND_XOR, 2, 0);
        Check.due("old kind", x.nodeKind(2), PodemTestGen.KIND_NAND);
        Check.due("old output", x.isOutput(2), true);
        Check.due("new gate is an output", x.isOutput(3), false);
        Check.due("old gate's value", x.evaluate(3, 2), 0);
        Check.due("testCount()", x.testCount(), 0);
    }

    private static void refusesWrongKinds() {
        int[] wrong = {-1, 8, 9, -8, 10, Integer.MIN_VALUE, Integer.MAX_VALUE};
        for (int kind : wrong) {
            refused(Nets.redundant(), kind, 0, 1, "with a wrong kind");
        }
        refused(Nets.redundant(), PodemTestGen.KIND_INPUT, 0, 0, "of KIND_INPUT");
    }

    private static void refusesWrongOperands() {
        int[] wrong = {-1, 6, 7, 32, Integer.MIN_VALUE, Integer.MAX_VALUE};
        for (int kind = 0; kind <= 7; kind++) {
            refused(new PodemTestGen(8, 2), kind, 0, 0, "on an empty netlist");
            for (int operand : wrong) {
                refused(Nets.redundant(), kind, operand, 0, "with a wrong first operand");
                refused(Nets.redundant(), kind, operand, operand, "with two wrong operands");
                if (kind >= 2) {
                    refused(Nets.redundant(), kind, 0, operand, "with a wrong second operand");
                }
            }
            PodemTestGen x = Nets.redundant();
            Check.due("addGate on the last node", x.addGate(kind, 5, 5), 6);
        }
    }

    private static void refusesAtTheLimitAndWhenSealed() {
        PodemTestGen x = Nets.redundant();
        x.addGate(PodemTestGen.KIND_NOR, 5, 4);
        Check.due("the last gate that fits", x.addGate(PodemTestGen.KIND_XNOR, 6, 1), 7);
        refused(x, PodemTestGen.KIND_AND, 0, 1, "at the node limit");
        refused(x, PodemTestGen.KIND_NOT, 0, 1, "at the node limit");

        PodemTestGen y = Nets.redundant();
        y.seal();
        y.nextTest();
        for (int kind = 0; kind <= 7; kind++) {
            refused(y, kind, 0, 1, "when sealed");
        }
    }

    private static void refused(PodemTestGen x, int kind, int a, int b, String when) {
        String call = "addGate(" + kind + ", " + a + ", " + b + ") " + when;
        String before = Picture.of(x);
        Check.due(call, x.addGate(kind, a, b), -1);
        Check.due("state after " + call, Picture.of(x), before);
    }
}
