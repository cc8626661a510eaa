/** Promise 16: simulate. */
public final class SimulateTest {
    public static void main(String[] args) {
        Check.sentence("answers how many faults f in [0, 2*nodeCount) the vector v detects, whatever their status.",
            SimulateTest::whateverTheStatus);
        Check.sentence("equals the number of f in that range for which `detects(v, f)` is true.",
            SimulateTest::equalsDetects);
        Check.sentence("The answer is in [0, 2*nodeCount]", SimulateTest::leastAndMost);
        Check.sentence("Works whether or not the netlist is sealed.", SimulateTest::sealedOrNot);
        Check.sentence("Answers -1 if v is out of range.", SimulateTest::vectorOutOfRange);
        Check.sentence("Changes nothing; in particular no fault status, detectedBy or test changes.",
            SimulateTest::changesNothing);
        Check.end();
    }

    private static void whateverTheStatus() {
        PodemTestGen x = Nets.sealedAt(Nets.redundant(), 5);
        int[] counts = {3, 5, 4, 4};
        for (int i = 0; i <= 6; i++) {
            for (int v = 0; v < 4; v++) {
                Check.due("simulate(" + v + ") after " + i + " nextTest()", x.simulate(v), counts[v]);
            }
            x.nextTest();
        }
    }

    private static void equalsDetects() {
        for (States.State state : States.all()) {
            PodemTestGen x = state.made().get();
            for (int v = 0; v < Nets.vectors(x); v++) {
                int count = 0;
                for (int f = 0; f < 2 * x.nodeCount(); f++) {
                    count += x.detects(v, f) ? 1 : 0;
                }
                Check.due("simulate(" + v + ") " + state.name(), x.simulate(v), count);
            }
        }
    }

    private static void leastAndMost() {
        Check.due("simulate(0) without nodes", new PodemTestGen(8, 1).simulate(0), 0);
        for (int inputs = 1; inputs <= 10; inputs++) {
            PodemTestGen bare = Nets.inputs(32, 10, inputs);
            PodemTestGen parity = Nets.parity(inputs);
            for (int v = 0; v < 1 << inputs; v++) {
                Check.due("simulate(" + v + ") without outputs", bare.simulate(v), 0);
                // In an XOR chain one of the two faults of every node shows under every vector.
                Check.due("simulate(" + v + ") of a parity", parity.simulate(v), 2 * inputs - 1);
            }
        }
        PodemTestGen full = Nets.inverters(32, 1, 32);
        for (int n = 0; n < 32; n++) {
            full.markOutput(n);
        }
        Check.due("simulate(0) of 32 outputs", full.simulate(0), 32);
        Check.due("simulate(1) of 32 outputs", full.simulate(1), 32);
    }

    private static void sealedOrNot() {
        PodemTestGen x = Nets.redundant();
        int[] counts = {3, 5, 4, 4};
        for (int round = 0; round < 2; round++) {
            for (int v = 0; v < 4; v++) {
                Check.due("simulate(" + v + "), sealed in round 1, round " + round, x.simulate(v), counts[v]);
            }
            x.seal();
        }
    }

    private static void vectorOutOfRange() {
        for (States.State state : States.all()) {
            PodemTestGen x = state.made().get();
            for (int v : Edges.outside(Nets.vectors(x))) {
                Check.due("simulate(" + v + ") " + state.name(), x.simulate(v), -1);
            }
        }
        for (int inputs = 0; inputs <= 10; inputs++) {
            PodemTestGen x = Nets.inputs(32, 10, inputs);
            Check.due("simulate(0) with " + inputs + " inputs", x.simulate(0), 0);
            Check.due("simulate of the last vector with " + inputs + " inputs", x.simulate((1 << inputs) - 1), 0);
            for (int v : Edges.outside(1 << inputs)) {
                Check.due("simulate(" + v + ") with " + inputs + " inputs", x.simulate(v), -1);
            }
        }
    }

    private static void changesNothing() {
        for (States.State state : States.all()) {
            Unchanged.by("simulate " + state.name(), state.made(), SimulateTest::askAll);
        }
    }

    private static void askAll(PodemTestGen x) {
        for (int v = 0; v < Nets.vectors(x); v++) {
            x.simulate(v);
        }
        for (int v : Edges.outside(Nets.vectors(x))) {
            x.simulate(v);
        }
    }
}
