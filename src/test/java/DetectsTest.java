/** Promise 15: detects. */
public final class DetectsTest {
    /** For each vector of Nets.redundant() the faults it detects, y for yes, worked out by hand. */
    private static final String[] REDUNDANT = {"nnnnnynnnyny", "nnnynynynyny", "nynnnynnnyny", "ynynynnnnnyn"};

    public static void main(String[] args) {
        Check.sentence("`detects(v, f)` answers whether vector v detects fault f, for the current netlist and outputs.",
            DetectsTest::currentNetlistAndOutputs);
        Check.sentence("This holds for an input node too.", DetectsTest::faultOfAnInputThatIsAnOutput);
        Check.sentence("Works whether or not the netlist is sealed", DetectsTest::sealedOrNot);
        Check.sentence("does not depend on fault status.", DetectsTest::whateverTheStatus);
        Check.sentence("Answers false if v is out of range", DetectsTest::vectorOutOfRange);
        Check.sentence("or if f < 0 or f >= 2*nodeCount.", DetectsTest::faultOutOfRange);
        Check.sentence("Answers false if v is out of range, or if f < 0 or f >= 2*nodeCount.",
            DetectsTest::bothOutOfRange);
        Check.sentence("With no output marked it answers false.", DetectsTest::withoutOutputs);
        Check.sentence("Changes nothing.", DetectsTest::changesNothing);
        Check.end();
    }

    private static void currentNetlistAndOutputs() {
        PodemTestGen x = Nets.inputs(8, 2, 1);
        x.addGate(PodemTestGen.KIND_NOT, 0, 0);
        x.addGate(PodemTestGen.KIND_NOT, 0, 0);
        x.markOutput(1);
        Check.due("detects(0, 4) with output 1", x.detects(0, 4), false);
        Check.due("detects(0, 2) with output 1", x.detects(0, 2), true);
        x.markOutput(2);
        Check.due("detects(0, 4) with outputs 1 and 2", x.detects(0, 4), true);
        Check.due("detects(0, 2) with outputs 1 and 2", x.detects(0, 2), true);
        Check.due("detects(0, 3) with outputs 1 and 2", x.detects(0, 3), false);
        Check.due("detects(2, 2) with one input", x.detects(2, 2), false);
        x.addInput();
        Check.due("detects(2, 2) with two inputs", x.detects(2, 2), true);
        Check.due("detects(0, 7) with an input that is no output", x.detects(0, 7), false);
        x.markOutput(3);
        Check.due("detects(0, 7) with an input that is an output", x.detects(0, 7), true);
    }

    private static void faultOfAnInputThatIsAnOutput() {
        PodemTestGen x = Nets.inputs(8, 1, 1);
        x.markOutput(0);
        Check.due("detects(0, 0)", x.detects(0, 0), false);
        Check.due("detects(0, 1)", x.detects(0, 1), true);
        Check.due("detects(1, 0)", x.detects(1, 0), true);
        Check.due("detects(1, 1)", x.detects(1, 1), false);
    }

    private static void sealedOrNot() {
        PodemTestGen x = Nets.redundant();
        rows(x, "before seal()");
        x.seal();
        rows(x, "after seal()");
    }

    private static void whateverTheStatus() {
        PodemTestGen x = Nets.sealedAt(Nets.redundant(), 5);
        for (int i = 0; i <= 6; i++) {
            rows(x, "after " + i + " nextTest()");
            x.nextTest();
        }
    }

    private static void rows(PodemTestGen x, String when) {
        for (int v = 0; v < 4; v++) {
            for (int f = 0; f < 12; f++) {
                Check.due("detects(" + v + ", " + f + ") " + when, x.detects(v, f), REDUNDANT[v].charAt(f) == 'y');
            }
        }
    }

    private static void vectorOutOfRange() {
        for (States.State state : States.all()) {
            PodemTestGen x = state.made().get();
            for (int v : Edges.outside(Nets.vectors(x))) {
                for (int f = 0; f < 2 * x.nodeCount(); f++) {
                    Check.due("detects(" + v + ", " + f + ") " + state.name(), x.detects(v, f), false);
                }
            }
        }
        // In a parity each vector shows one fault of every node, so each pair answers true once v is in range.
        for (int inputs = 1; inputs <= 10; inputs++) {
            PodemTestGen x = Nets.parity(inputs);
            int end = 1 << inputs;
            Check.due("detects(last, 0)", x.detects(end - 1, 0), true);
            Check.due("detects(end, 0)", x.detects(end, 0), false);
            Check.due("detects(end, 1)", x.detects(end, 1), false);
            Check.due("detects(-1, 0)", x.detects(-1, 0), false);
            Check.due("detects(-end, 1)", x.detects(-end, 1), false);
        }
    }

    private static void faultOutOfRange() {
        for (States.State state : States.all()) {
            PodemTestGen x = state.made().get();
            int last = Nets.vectors(x) - 1;
            for (int f : Edges.outside(2 * x.nodeCount())) {
                Check.due("detects(0, " + f + ") " + state.name(), x.detects(0, f), false);
                Check.due("detects(" + last + ", " + f + ") " + state.name(), x.detects(last, f), false);
            }
        }
        // One input that is an output: whatever is taken for one of its faults shows under 0 or 1.
        PodemTestGen x = Nets.sealedAt(Nets.inputs(8, 1, 1), 0);
        for (int f : Edges.outside(2)) {
            Check.due("detects(0, " + f + ")", x.detects(0, f), false);
            Check.due("detects(1, " + f + ")", x.detects(1, f), false);
        }
    }

    private static void bothOutOfRange() {
        for (States.State state : States.all()) {
            PodemTestGen x = state.made().get();
            for (int v : Edges.outside(Nets.vectors(x))) {
                for (int f : Edges.outside(2 * x.nodeCount())) {
                    Check.due("detects(" + v + ", " + f + ") " + state.name(), x.detects(v, f), false);
                }
            }
        }
    }

    private static void withoutOutputs() {
        for (int inputs = 0; inputs <= 10; inputs++) {
            PodemTestGen x = Nets.inputs(32, 10, inputs);
            for (int n = inputs; inputs > 0 && n < 32; n++) {
                x.addGate(n % 8, n - 1, n - inputs);
            }
            for (int v = 0; v < 1 << inputs; v++) {
                for (int f = 0; f < 64; f++) {
                    Check.due("detects(" + v + ", " + f + ") without outputs", x.detects(v, f), false);
                }
            }
        }
    }

    private static void changesNothing() {
        for (States.State state : States.all()) {
            Unchanged.by("detects " + state.name(), state.made(), DetectsTest::askAll);
        }
    }

    private static void askAll(PodemTestGen x) {
        int vectors = Nets.vectors(x);
        for (int f = -1; f <= 2 * x.nodeCount(); f++) {
            for (int v = -1; v <= vectors; v++) {
                x.detects(v, f);
            }
            for (int v : Edges.outside(vectors)) {
                x.detects(v, f);
            }
        }
        for (int f : Edges.outside(2 * x.nodeCount())) {
            x.detects(0, f);
        }
    }
}
