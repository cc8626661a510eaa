import java.util.ArrayList;
import java.util.List;
import java.util.function.Supplier;

/** Promise 3: addGate. */
public final class AddGateTest {
    private record Refusal(String call, Supplier<PodemTestGen> made, int kind, int a, int b) {
    }

    private static final List<Refusal> REFUSALS = new ArrayList<>();

    public static void main(String[] args) {
        Check.sentence("For BUF and NOT only a is used, and b is ignored (any int).",
            AddGateTest::oneOperandGatesIgnoreTheSecond);
        Check.sentence("1. sealed: answers -1;", AddGateTest::refusedWhenSealed);
        Check.sentence("2. nodeCount == nodeLimit: answers -1;", AddGateTest::refusedAtTheNodeLimit);
        Check.sentence("3. kind < 0 or kind > 7: answers -1 (so KIND_INPUT is refused);",
            AddGateTest::refusedForItsKind);
        Check.sentence("4. a < 0 or a >= nodeCount: answers -1;", AddGateTest::refusedForItsFirstOperand);
        Check.sentence("5. kind >= 2 and (b < 0 or b >= nodeCount): answers -1.",
            AddGateTest::refusedForItsSecondOperand);
        Check.sentence("Tests, in order:", AddGateTest::refusedForSeveralReasons);
        Check.sentence("A refused call changes nothing.", AddGateTest::refusedChangesNothing);
        Check.sentence("Otherwise it appends the gate, increments nodeCount, and answers the new node's index (the old "
                + "nodeCount).",
            AddGateTest::appends);
        Check.sentence("a and b may be equal.", AddGateTest::equalOperands);
        Check.sentence("adds a gate of the given kind (KIND_BUF..KIND_XNOR) with operands a and b.",
            AddGateTest::operandsKeepTheirPlaces);
        Check.sentence("inputCount does not change, the new node is not marked as output, and existing nodes, outputs "
                + "and tests do not change.",
            AddGateTest::keepsWhatStands);
        Check.end();
    }

    private static void oneOperandGatesIgnoreTheSecond() {
        List<Integer> any = new ArrayList<>(Edges.outside(2));
        any.add(0);
        any.add(1);
        for (int b : any) {
            PodemTestGen x = Nets.inputs(8, 2, 2);
            Check.due("BUF with b = " + b, x.addGate(PodemTestGen.KIND_BUF, 0, b), 2);
            Check.due("NOT with b = " + b, x.addGate(PodemTestGen.KIND_NOT, 0, b), 3);
            for (int v = 0; v < 4; v++) {
                Check.due("BUF with b = " + b + " under " + v, x.evaluate(v, 2), v & 1);
                Check.due("NOT with b = " + b + " under " + v, x.evaluate(v, 3), 1 - (v & 1));
            }
            // Input 1 must not reach the gates as a second operand either.
            x.markOutput(2);
            x.markOutput(3);
            Check.due("detects(3, 2) with b = " + b, x.detects(3, 2), false);
        }
    }

    private static void refusedWhenSealed() {
        for (int kind = 0; kind <= 7; kind++) {
            refused("sealed, with room", Nets::sealedWithRoom, kind, 0, 1);
        }
        for (States.State state : States.sealed()) {
            refused(state.name(), state.made(), PodemTestGen.KIND_AND, 0, 0);
            refused(state.name(), state.made(), PodemTestGen.KIND_BUF, 0, 0);
        }
    }

    private static void refusedAtTheNodeLimit() {
        for (int limit = 8; limit <= 32; limit++) {
            int nodes = limit;
            for (int kind = 0; kind <= 7; kind++) {
                PodemTestGen x = Nets.inverters(limit, 1, limit - 1);
                Check.due("addGate one below node limit " + limit, x.addGate(kind, 0, limit - 2), limit - 1);
                refused("at node limit " + limit, () -> Nets.inverters(nodes, 1, nodes), kind, 0, limit - 1);
            }
        }
        refused("at the node limit, inputs alone", () -> Nets.inputs(8, 8, 8), PodemTestGen.KIND_OR, 0, 7);
    }

    private static void refusedForItsKind() {
        for (int kind : Edges.outside(8)) {
            refused("with a wrong kind", Nets::redundant, kind, 0, 1);
        }
        refused("of KIND_INPUT", Nets::redundant, PodemTestGen.KIND_INPUT, 5, 5);
        refused("of KIND_INPUT", () -> Nets.inputs(8, 2, 1), PodemTestGen.KIND_INPUT, 0, 0);
    }

    private static void refusedForItsFirstOperand() {
        for (int kind = 0; kind <= 7; kind++) {
            refused("on an empty netlist", () -> new PodemTestGen(8, 2), kind, 0, 0);
            refused("of itself", () -> Nets.inputs(8, 2, 1), kind, 1, 0);
            for (int a : Edges.outside(6)) {
                refused("with a wrong first operand", Nets::redundant, kind, a, 0);
            }
            Check.due("addGate of the first node", Nets.redundant().addGate(kind, 0, 1), 6);
            Check.due("addGate of the last node", Nets.redundant().addGate(kind, 5, 1), 6);
        }
    }

    private static void refusedForItsSecondOperand() {
        for (int kind = 2; kind <= 7; kind++) {
            refused("of itself", () -> Nets.inputs(8, 2, 1), kind, 0, 1);
            for (int b : Edges.outside(6)) {
                refused("with a wrong second operand", Nets::redundant, kind, 0, b);
            }
            Check.due("addGate with the first node second", Nets.redundant().addGate(kind, 1, 0), 6);
            Check.due("addGate with the last node second", Nets.redundant().addGate(kind, 1, 5), 6);
        }
        for (int kind = 0; kind <= 1; kind++) {
            Check.due("addGate of one operand", Nets.redundant().addGate(kind, 0, 6), 6);
            Check.due("addGate of one operand", Nets.redundant().addGate(kind, 0, -1), 6);
        }
    }

    private static void refusedForSeveralReasons() {
        refused("sealed, at the limit", () -> Nets.sealedAt(Nets.inverters(8, 1, 8), 7), PodemTestGen.KIND_AND, 0, 1);
        refused("sealed, all wrong", Nets::sealedWithRoom, -1, -1, -1);
        refused("at the limit, all wrong", () -> Nets.inverters(8, 1, 8), 8, 8, 8);
        refused("with a wrong kind on an empty netlist", () -> new PodemTestGen(8, 1), 8, 0, 0);
        for (int wrong : Edges.outside(8)) {
            refused("all wrong", Nets::redundant, wrong, wrong, wrong);
            refused("both operands wrong", Nets::redundant, PodemTestGen.KIND_XOR, wrong, wrong);
            refused("kind and first operand wrong", Nets::redundant, wrong, wrong, 0);
            refused("kind and second operand wrong", Nets::redundant, wrong, 0, wrong);
        }
    }

    private static void refusedChangesNothing() {
        for (Refusal r : REFUSALS) {
            Unchanged.by(r.call(), r.made(), x -> x.addGate(r.kind(), r.a(), r.b()));
        }
    }

    private static void refused(String when, Supplier<PodemTestGen> made, int kind, int a, int b) {
        String call = "addGate(" + kind + ", " + a + ", " + b + ") " + when;
        Check.due(call, made.get().addGate(kind, a, b), -1);
        REFUSALS.add(new Refusal(call, made, kind, a, b));
    }

    private static void appends() {
        PodemTestGen x = Nets.inputs(32, 2, 2);
        for (int n = 2; n < 32; n++) {
            int kind = n % 8;
            Check.due("addGate of kind " + kind, x.addGate(kind, n - 1, n - 2), n);
            Check.due("nodeKind(" + n + ")", x.nodeKind(n), kind);
            Check.due("nodeCount()", x.nodeCount(), n + 1);
        }
    }

    private static void equalOperands() {
        int[][] values = {{0, 1}, {1, 0}, {0, 1}, {1, 0}, {0, 1}, {1, 0}, {0, 0}, {1, 1}};
        for (int kind = 0; kind <= 7; kind++) {
            PodemTestGen x = Nets.inputs(8, 1, 1);
            Check.due("addGate(" + kind + ", 0, 0)", x.addGate(kind, 0, 0), 1);
            Check.due("kind " + kind + " of 0 and 0", x.evaluate(0, 1), values[kind][0]);
            Check.due("kind " + kind + " of 1 and 1", x.evaluate(1, 1), values[kind][1]);
        }
    }

    private static void operandsKeepTheirPlaces() {
        PodemTestGen x = Nets.inputs(8, 3, 3);
        x.addGate(PodemTestGen.KIND_AND, 2, 0);
        x.addGate(PodemTestGen.KIND_OR, 3, 1);
        for (int v = 0; v < 8; v++) {
            int and = v >> 2 & v & 1;
            Check.due("AND of inputs 2 and 0 under " + v, x.evaluate(v, 3), and);
            Check.due("OR of that and input 1 under " + v, x.evaluate(v, 4), and | (v >> 1 & 1));
        }
    }

    private static void keepsWhatStands() {
        for (int kind = 0; kind <= 7; kind++) {
            PodemTestGen x = Nets.oneGate(PodemTestGen.KIND_NAND);
            x.markOutput(3);
            x.addGate(kind, 2, 0);
            Check.due("simulate(4): still two inputs", x.simulate(4), -1);
            Check.due("input 1 under 2", x.evaluate(2, 1), 1);
            Check.due("isOutput of the new gate", x.isOutput(3), false);
            Check.due("isOutput of an old output", x.isOutput(2), true);
            Check.due("isOutput of an old input", x.isOutput(0), false);
            Check.due("kind of an old gate", x.nodeKind(2), PodemTestGen.KIND_NAND);
            Check.due("kind of an old input", x.nodeKind(1), PodemTestGen.KIND_INPUT);
            for (int v = 0; v < 4; v++) {
                Check.due("the old gate under " + v, x.evaluate(v, 2), v == 3 ? 0 : 1);
            }
            Check.due("testCount()", x.testCount(), 0);
            Check.due("addInput() at the input limit", x.addInput(), -1);
        }
        PodemTestGen y = Nets.inverters(8, 2, 2);
        Check.due("addInput() after a gate", y.addInput(), 2);
    }
}
