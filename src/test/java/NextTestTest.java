import java.util.ArrayList;
import java.util.List;

/** Promise 6: nextTest. */
public final class NextTestTest {
    private static final int UNTRIED = PodemTestGen.STATUS_UNTRIED;
    private static final int DETECTED = PodemTestGen.STATUS_DETECTED;
    private static final int UNTESTABLE = PodemTestGen.STATUS_UNTESTABLE;

    public static void main(String[] args) {
        Check.sentence("1. not sealed: answers RESULT_NONE;", NextTestTest::refusedBeforeSeal);
        Check.sentence("2. no fault has STATUS_UNTRIED: answers RESULT_NONE.", NextTestTest::refusedWithNoFaultLeft);
        Check.sentence("A refused call changes nothing.", NextTestTest::refusedChangesNothing);
        Check.sentence("`nextTest()` handles one fault.", NextTestTest::stepByStep);
        Check.sentence("Otherwise let f be the least fault index with STATUS_UNTRIED", NextTestTest::leastFault);
        Check.sentence("v the least vector (in [0, 1 << inputCount)) that detects f.", NextTestTest::leastVector);
        Check.sentence("If there is no such v: f gets STATUS_UNTESTABLE, and the call answers RESULT_UNTESTABLE.",
            NextTestTest::untestable);
        Check.sentence("Its detectedBy stays -1. No test is recorded and no other fault changes.",
            NextTestTest::untestableChangesOneFaultAlone);
        Check.sentence("A test is appended at index t = testCount, with vector v and target f, and testCount is "
                + "incremented.",
            NextTestTest::recordsATest);
        Check.sentence("A test is appended at index t = testCount", NextTestTest::recordsMoreTestsThanNodes);
        Check.sentence("Every fault g with STATUS_UNTRIED that v detects (f among them) gets STATUS_DETECTED and "
                + "detectedBy t.",
            NextTestTest::marksWhatTheVectorDetects);
        Check.sentence("Faults that already have STATUS_DETECTED or STATUS_UNTESTABLE keep their status and detectedBy.",
            NextTestTest::keepsWhatIsDecided);
        Check.sentence("Earlier tests do not change.", NextTestTest::earlierTestsStay);
        Check.sentence("A fault never returns to STATUS_UNTRIED, so after at most 2*nodeCount handling calls every "
                + "further call answers RESULT_NONE.",
            NextTestTest::endsInTime);
        Check.sentence("every recorded test's vector detects its target, and every fault with STATUS_UNTESTABLE is "
                + "detected by no vector in range.",
            NextTestTest::whatIsRecordedIsTrue);
        Check.end();
    }

    private static void refusedBeforeSeal() {
        for (States.State state : States.open()) {
            PodemTestGen x = state.made().get();
            for (int i = 0; i < 3; i++) {
                Check.due("nextTest() " + state.name(), x.nextTest(), PodemTestGen.RESULT_NONE);
            }
        }
    }

    private static void refusedWithNoFaultLeft() {
        for (States.State state : done()) {
            PodemTestGen x = state.made().get();
            for (int f = 0; f < 2 * x.nodeCount(); f++) {
                Check.due("fault " + f + " is left", x.faultStatus(f) == UNTRIED, false);
            }
            for (int i = 0; i < 70; i++) {
                Check.due("nextTest() " + state.name(), x.nextTest(), PodemTestGen.RESULT_NONE);
            }
        }
    }

    private static void refusedChangesNothing() {
        List<States.State> refusing = new ArrayList<>(States.open());
        refusing.addAll(done());
        for (States.State state : refusing) {
            Unchanged.by("nextTest() " + state.name(), state.made(), PodemTestGen::nextTest);
            Unchanged.by("many nextTest() " + state.name(), state.made(), x -> Nets.after(x, 70));
        }
    }

    /** Sealed objects whose faults are all decided: tested alone, and tested or untestable. */
    private static List<States.State> done() {
        return List.of(
            new States.State("after one node's faults", () -> Nets.after(Nets.sealedAt(Nets.inputs(8, 1, 1), 0), 2)),
            new States.State("after redundant's faults", () -> Nets.after(Nets.sealedAt(Nets.redundant(), 5), 5)),
            new States.State("after a parity's faults", () -> Nets.after(Nets.sealedAt(Nets.parity(10), 18), 38)),
            new States.State("after more tests than nodes", () -> Nets.after(Nets.sealedAt(Nets.pairs(), 0), 33)),
            new States.State("after 64 faults", () -> Nets.after(Nets.sealedAt(Nets.inverters(32, 1, 32), 0), 64)));
    }

    /** Worked out by hand: after each call the status and detecting test of every fault. */
    private static void stepByStep() {
        PodemTestGen x = Nets.redundant();
        x.seal();
        step(x, 3, "1 0 1 0 1 0 0 0 0 0 1 0", "0 - 0 - 0 - - - - - 0 -");
        step(x, 2, "1 1 1 0 1 1 0 0 0 1 1 1", "0 1 0 - 0 1 - - - 1 0 1");
        step(x, 1, "1 1 1 1 1 1 0 1 0 1 1 1", "0 1 0 2 0 1 - 2 - 1 0 1");
        step(x, -1, "1 1 1 1 1 1 2 1 0 1 1 1", "0 1 0 2 0 1 - 2 - 1 0 1");
        step(x, -1, "1 1 1 1 1 1 2 1 2 1 1 1", "0 1 0 2 0 1 - 2 - 1 0 1");
        step(x, -2, "1 1 1 1 1 1 2 1 2 1 1 1", "0 1 0 2 0 1 - 2 - 1 0 1");
        Check.due("testCount()", x.testCount(), 3);
        int[][] tests = {{3, 0}, {2, 1}, {1, 3}};
        for (int t = 0; t < 3; t++) {
            Check.due("testVector(" + t + ")", x.testVector(t), tests[t][0]);
            Check.due("testTarget(" + t + ")", x.testTarget(t), tests[t][1]);
        }
    }

    private static void step(PodemTestGen x, int answer, String statuses, String detectors) {
        Check.due("nextTest()", x.nextTest(), answer);
        StringBuilder got = new StringBuilder();
        StringBuilder by = new StringBuilder();
        for (int f = 0; f < 12; f++) {
            String gap = f == 0 ? "" : " ";
            got.append(gap).append(x.faultStatus(f));
            by.append(gap).append(x.detectedBy(f) == -1 ? "-" : String.valueOf(x.detectedBy(f)));
        }
        Check.due("statuses after nextTest()", got.toString(), statuses);
        Check.due("detecting tests after nextTest()", by.toString(), detectors);
    }

    private static void leastFault() {
        for (PodemTestGen x : sealedNets()) {
            for (int f = leastUntried(x); f >= 0; f = leastUntried(x)) {
                int answer = x.nextTest();
                Check.due("status of the least untried fault " + f,
                    x.faultStatus(f), answer >= 0 ? DETECTED : UNTESTABLE);
                if (answer >= 0) {
                    Check.due("testTarget of the new test", x.testTarget(x.testCount() - 1), f);
                }
                if (x.faultStatus(f) == UNTRIED) {
                    break;
                }
            }
        }
    }

    private static void leastVector() {
        for (PodemTestGen x : sealedNets()) {
            for (int i = 0; i < 64; i++) {
                int f = leastUntried(x);
                int due = f < 0 ? PodemTestGen.RESULT_NONE : leastDetecting(x, f);
                Check.due("nextTest() for fault " + f, x.nextTest(), due);
            }
        }
        PodemTestGen and = Nets.sealedAt(Nets.chain(PodemTestGen.KIND_AND, 10), 18);
        Check.due("nextTest() that needs the last vector", and.nextTest(), 1023);
        for (int k = 0; k < 10; k++) {
            Check.due("nextTest() for input " + k + " stuck at 1", and.nextTest(), 1023 - (1 << k));
        }
        PodemTestGen or = Nets.sealedAt(Nets.chain(PodemTestGen.KIND_OR, 10), 18);
        Check.due("nextTest() for input 0 stuck at 0", or.nextTest(), 1);
        Check.due("nextTest() that needs vector 0", or.nextTest(), 0);
    }

    private static void untestable() {
        PodemTestGen x = Nets.after(Nets.sealedAt(Nets.inverters(32, 1, 32), 0), 2);
        for (int f = 2; f < 64; f++) {
            Check.due("nextTest() for fault " + f, x.nextTest(), PodemTestGen.RESULT_UNTESTABLE);
            Check.due("faultStatus(" + f + ")", x.faultStatus(f), UNTESTABLE);
        }
        PodemTestGen wide = Nets.parity(10);
        int zero = wide.addGate(PodemTestGen.KIND_XOR, 18, 18);
        Nets.after(Nets.sealedAt(wide, zero), 64);
        Check.due("status of a node that is always 0 stuck at 0", wide.faultStatus(2 * zero), UNTESTABLE);
        Check.due("status of a node that is always 0 stuck at 1", wide.faultStatus(2 * zero + 1), DETECTED);
    }

    private static void untestableChangesOneFaultAlone() {
        PodemTestGen x = Nets.after(Nets.sealedAt(Nets.inverters(32, 1, 32), 0), 2);
        for (int f = 2; f < 64; f++) {
            x.nextTest();
            Check.due("detectedBy(" + f + ")", x.detectedBy(f), -1);
            Check.due("testCount()", x.testCount(), 2);
            Check.due("testVector(2)", x.testVector(2), -1);
            for (int g = 0; g < 64; g++) {
                int status = g < 2 ? DETECTED : g <= f ? UNTESTABLE : UNTRIED;
                Check.due("faultStatus(" + g + ") after fault " + f, x.faultStatus(g), status);
                Check.due("detectedBy(" + g + ") after fault " + f, x.detectedBy(g), g < 2 ? g : -1);
            }
        }
    }

    private static void recordsATest() {
        for (PodemTestGen x : sealedNets()) {
            for (int i = 0; i < 64; i++) {
                int f = leastUntried(x);
                int t = x.testCount();
                int answer = x.nextTest();
                Check.due("testCount()", x.testCount(), answer >= 0 ? t + 1 : t);
                Check.due("testVector(" + t + ")", x.testVector(t), answer >= 0 ? answer : -1);
                Check.due("testTarget(" + t + ")", x.testTarget(t), answer >= 0 ? f : -1);
            }
        }
    }

    private static void recordsMoreTestsThanNodes() {
        PodemTestGen x = Nets.sealedAt(Nets.pairs(), 0);
        int[] vectors = Nets.pairVectors();
        for (int t = 0; t < vectors.length; t++) {
            int target = t < 2 ? t : 2 * (t - 1);
            Check.due("nextTest() number " + t, x.nextTest(), vectors[t]);
            Check.due("testCount()", x.testCount(), t + 1);
            Check.due("testVector(" + t + ")", x.testVector(t), vectors[t]);
            Check.due("testTarget(" + t + ")", x.testTarget(t), target);
            Check.due("detectedBy(" + target + ")", x.detectedBy(target), t);
        }
        Check.due("nextTest() after the last", x.nextTest(), PodemTestGen.RESULT_NONE);
    }

    private static void marksWhatTheVectorDetects() {
        for (PodemTestGen x : sealedNets()) {
            for (int i = 0; i < 64; i++) {
                int t = x.testCount();
                int[] statuses = statuses(x);
                int v = x.nextTest();
                for (int g = 0; v >= 0 && g < statuses.length; g++) {
                    if (statuses[g] == UNTRIED) {
                        boolean found = x.detects(v, g);
                        Check.due("faultStatus(" + g + ")", x.faultStatus(g), found ? DETECTED : UNTRIED);
                        Check.due("detectedBy(" + g + ")", x.detectedBy(g), found ? t : -1);
                    }
                }
            }
        }
    }

    private static void keepsWhatIsDecided() {
        for (PodemTestGen x : sealedNets()) {
            for (int i = 0; i < 66; i++) {
                int[] statuses = statuses(x);
                int[] detectors = detectors(x);
                x.nextTest();
                for (int g = 0; g < statuses.length; g++) {
                    if (statuses[g] != UNTRIED) {
                        Check.due("faultStatus(" + g + ")", x.faultStatus(g), statuses[g]);
                        Check.due("detectedBy(" + g + ")", x.detectedBy(g), detectors[g]);
                    }
                }
            }
        }
    }

    private static void earlierTestsStay() {
        for (PodemTestGen x : sealedNets()) {
            List<int[]> tests = new ArrayList<>();
            for (int i = 0; i < 66; i++) {
                x.nextTest();
                for (int t = 0; t < tests.size(); t++) {
                    Check.due("testVector(" + t + ")", x.testVector(t), tests.get(t)[0]);
                    Check.due("testTarget(" + t + ")", x.testTarget(t), tests.get(t)[1]);
                }
                if (x.testCount() > tests.size()) {
                    tests.add(new int[] {x.testVector(tests.size()), x.testTarget(tests.size())});
                }
            }
        }
    }

    private static void endsInTime() {
        for (int nodes = 1; nodes <= 32; nodes++) {
            PodemTestGen x = Nets.sealedAt(Nets.inverters(32, 1, nodes), 0);
            for (int i = 0; i < 2 * nodes; i++) {
                boolean handled = x.nextTest() != PodemTestGen.RESULT_NONE;
                Check.due("call " + i + " of " + nodes + " nodes handles a fault", handled, true);
            }
            for (int i = 0; i < 10; i++) {
                Check.due("a further call", x.nextTest(), PodemTestGen.RESULT_NONE);
            }
        }
        for (PodemTestGen x : sealedNets()) {
            int left = 2 * x.nodeCount();
            for (int i = 0; i < 2 * x.nodeCount(); i++) {
                x.nextTest();
                int[] statuses = statuses(x);
                int untried = 0;
                for (int status : statuses) {
                    untried += status == UNTRIED ? 1 : 0;
                }
                Check.due("a fault was handled", untried < left || untried == 0, true);
                left = untried;
            }
            Check.due("faults left", left, 0);
            Check.due("a further call", x.nextTest(), PodemTestGen.RESULT_NONE);
        }
    }

    private static void whatIsRecordedIsTrue() {
        for (PodemTestGen x : sealedNets()) {
            Nets.after(x, 64);
            for (int t = 0; t < x.testCount(); t++) {
                Check.due("test " + t + " detects its target", x.detects(x.testVector(t), x.testTarget(t)), true);
            }
            for (int f = 0; f < 2 * x.nodeCount(); f++) {
                boolean untestable = x.faultStatus(f) == UNTESTABLE;
                Check.due("some vector detects fault " + f, leastDetecting(x, f) >= 0, !untestable);
                if (!untestable) {
                    Check.due("its test detects fault " + f, x.detects(x.testVector(x.detectedBy(f)), f), true);
                }
            }
        }
    }

    /** New sealed objects: one of each gate, one output and several, one input and ten, testable or not. */
    private static List<PodemTestGen> sealedNets() {
        List<PodemTestGen> nets = new ArrayList<>();
        for (int kind = 0; kind <= 7; kind++) {
            nets.add(Nets.sealedAt(Nets.oneGate(kind), 2));
            nets.add(Nets.sealedAt(Nets.chain(kind, 5), 8));
        }
        nets.add(Nets.sealedAt(Nets.redundant(), 5));
        nets.add(Nets.sealedAt(Nets.redundant(), 3));
        nets.add(Nets.sealedAt(Nets.inputs(8, 1, 1), 0));
        nets.add(Nets.sealedAt(Nets.inverters(32, 1, 32), 31));
        nets.add(Nets.sealedAt(Nets.parity(10), 18));
        nets.add(Nets.sealedAt(Nets.chain(PodemTestGen.KIND_NAND, 10), 12));
        nets.add(Nets.sealedAt(Nets.pairs(), 0));
        return nets;
    }

    private static int leastUntried(PodemTestGen x) {
        for (int f = 0; f < 2 * x.nodeCount(); f++) {
            if (x.faultStatus(f) == UNTRIED) {
                return f;
            }
        }
        return -1;
    }

    /** The least vector in range that detects f, or -1. */
    private static int leastDetecting(PodemTestGen x, int f) {
        for (int v = 0; v < Nets.vectors(x); v++) {
            if (x.detects(v, f)) {
                return v;
            }
        }
        return -1;
    }

    private static int[] statuses(PodemTestGen x) {
        int[] statuses = new int[2 * x.nodeCount()];
        for (int f = 0; f < statuses.length; f++) {
            statuses[f] = x.faultStatus(f);
        }
        return statuses;
    }

    private static int[] detectors(PodemTestGen x) {
        int[] detectors = new int[2 * x.nodeCount()];
        for (int f = 0; f < detectors.length; f++) {
            detectors[f] = x.detectedBy(f);
        }
        return detectors;
    }
}
