/** Promise 13: testVector and testTarget. */
public final class TestVectorAndTargetTest {
    public static void main(String[] args) {
        Check.sentence("`testVector(t)` answers the vector of test t, and `testTarget(t)` answers the target fault of "
                + "test t.",
            TestVectorAndTargetTest::vectorsAndTargets);
        Check.sentence("Both answer -1 if t < 0 or t >= testCount.", TestVectorAndTargetTest::outOfRange);
        Check.sentence("A recorded vector is in [0, 1 << inputCount) and detects its target fault",
            TestVectorAndTargetTest::vectorsAreTrue);
        Check.sentence("the target is the fault that `nextTest()` handled when it recorded the test.",
            TestVectorAndTargetTest::targetsWereHandled);
        Check.sentence("Neither method changes anything.", TestVectorAndTargetTest::changeNothing);
        Check.end();
    }

    private static void vectorsAndTargets() {
        PodemTestGen x = Nets.sealedAt(Nets.redundant(), 5);
        int[] vectors = {3, 2, 1};
        int[] targets = {0, 1, 3};
        for (int made = 0; made <= 6; made++) {
            for (int t = 0; t < Math.min(made, 3); t++) {
                Check.due("testVector(" + t + ") after " + made, x.testVector(t), vectors[t]);
                Check.due("testTarget(" + t + ") after " + made, x.testTarget(t), targets[t]);
            }
            x.nextTest();
        }
        PodemTestGen most = Nets.after(Nets.sealedAt(Nets.pairs(), 0), 40);
        for (int t = 0; t < 33; t++) {
            Check.due("testVector(" + t + ") of 33", most.testVector(t), Nets.pairVectors()[t]);
            Check.due("testTarget(" + t + ") of 33", most.testTarget(t), t < 2 ? t : 2 * (t - 1));
        }
    }

    private static void outOfRange() {
        for (States.State state : States.all()) {
            PodemTestGen x = state.made().get();
            for (int t : Edges.outside(x.testCount())) {
                Check.due("testVector(" + t + ") " + state.name(), x.testVector(t), -1);
                Check.due("testTarget(" + t + ") " + state.name(), x.testTarget(t), -1);
            }
            for (int t = 0; t < x.testCount(); t++) {
                Check.due("testVector(" + t + ") is told, " + state.name(), x.testVector(t) >= 0, true);
                Check.due("testTarget(" + t + ") is told, " + state.name(), x.testTarget(t) >= 0, true);
            }
        }
    }

    private static void vectorsAreTrue() {
        for (int inputs = 1; inputs <= 10; inputs++) {
            for (int kind = 2; kind <= 7; kind++) {
                PodemTestGen x = Nets.chain(kind, inputs);
                x.seal();
                Nets.after(x, 64);
                Check.due("there are tests", x.testCount() > 0, true);
                for (int t = 0; t < x.testCount(); t++) {
                    int v = x.testVector(t);
                    Check.due("vector " + v + " is in range", v >= 0 && v < 1 << inputs, true);
                    Check.due("vector " + v + " detects its target", x.detects(v, x.testTarget(t)), true);
                }
            }
        }
    }

    private static void targetsWereHandled() {
        PodemTestGen x = Nets.sealedAt(Nets.chain(PodemTestGen.KIND_AND, 10), 18);
        Nets.after(x, 20);
        Check.due("testTarget(0)", x.testTarget(0), 0);
        for (int k = 0; k < 10; k++) {
            Check.due("testTarget(" + (k + 1) + ")", x.testTarget(k + 1), 2 * k + 1);
        }
    }

    private static void changeNothing() {
        for (States.State state : States.all()) {
            Unchanged.by("testVector " + state.name(), state.made(), TestVectorAndTargetTest::askVectors);
            Unchanged.by("testTarget " + state.name(), state.made(), TestVectorAndTargetTest::askTargets);
        }
    }

    private static void askVectors(PodemTestGen x) {
        for (int t = 0; t < 64; t++) {
            x.testVector(t);
        }
        for (int t : Edges.outside(x.testCount())) {
            x.testVector(t);
        }
    }

    private static void askTargets(PodemTestGen x) {
        for (int t = 0; t < 64; t++) {
            x.testTarget(t);
        }
        for (int t : Edges.outside(x.testCount())) {
            x.testTarget(t);
        }
    }
}
