/** Promise 11: detectedBy. */
public final class DetectedByTest {
    public static void main(String[] args) {
        Check.sentence("`detectedBy(f)` answers the index of the test that set fault f to STATUS_DETECTED",
            DetectedByTest::detected);
        Check.sentence("that index is in [0, testCount).", DetectedByTest::staysInItsRange);
        Check.sentence("Answers -1 if f is not detected (STATUS_UNTRIED or STATUS_UNTESTABLE)",
            DetectedByTest::notDetected);
        Check.sentence("if not sealed", DetectedByTest::notSealed);
        Check.sentence("or if f is out of range (f < 0 or f >= 2*nodeCount).", DetectedByTest::outOfRange);
        Check.sentence("Changes nothing.", DetectedByTest::changesNothing);
        Check.end();
    }

    private static void detected() {
        PodemTestGen x = Nets.sealedAt(Nets.redundant(), 5);
        String[] after = {"------------", "0-0-0-----0-", "010-01---101", "010201-2-101", "010201-2-101", "010201-2-101"};
        for (String row : after) {
            for (int f = 0; f < 12; f++) {
                int due = row.charAt(f) == '-' ? -1 : row.charAt(f) - '0';
                Check.due("detectedBy(" + f + ") of " + row, x.detectedBy(f), due);
            }
            x.nextTest();
        }
        // Test 0 is input 0 alone, so it shows every other input and every gate stuck at 1.
        PodemTestGen most = Nets.after(Nets.sealedAt(Nets.pairs(), 0), 40);
        for (int n = 1; n < 32; n++) {
            Check.due("detectedBy(" + 2 * n + ") of 33 tests", most.detectedBy(2 * n), n + 1);
            Check.due("detectedBy(" + (2 * n + 1) + ") of 33 tests", most.detectedBy(2 * n + 1), 0);
        }
        Check.due("detectedBy(0) of 33 tests", most.detectedBy(0), 0);
        Check.due("detectedBy(1) of 33 tests", most.detectedBy(1), 1);
    }

    private static void staysInItsRange() {
        PodemTestGen x = Nets.sealedAt(Nets.chain(PodemTestGen.KIND_NAND, 10), 18);
        for (int i = 0; i < 40; i++) {
            for (int f = 0; f < 38; f++) {
                boolean detected = x.faultStatus(f) == PodemTestGen.STATUS_DETECTED;
                boolean inside = x.detectedBy(f) >= 0 && x.detectedBy(f) < x.testCount();
                Check.due("detectedBy(" + f + ") is a test's index", inside, detected);
            }
            x.nextTest();
        }
    }

    private static void notDetected() {
        for (States.State state : States.sealed()) {
            PodemTestGen x = state.made().get();
            for (int f = 0; f < 2 * x.nodeCount(); f++) {
                boolean detected = x.faultStatus(f) == PodemTestGen.STATUS_DETECTED;
                Check.due("detectedBy(" + f + ") is -1, " + state.name(), x.detectedBy(f) == -1, !detected);
            }
        }
    }

    private static void notSealed() {
        for (States.State state : States.open()) {
            PodemTestGen x = state.made().get();
            for (int f = 0; f < 64; f++) {
                Check.due("detectedBy(" + f + ") " + state.name(), x.detectedBy(f), -1);
            }
        }
    }

    private static void outOfRange() {
        for (States.State state : States.all()) {
            PodemTestGen x = state.made().get();
            for (int f : Edges.outside(2 * x.nodeCount())) {
                Check.due("detectedBy(" + f + ") " + state.name(), x.detectedBy(f), -1);
            }
        }
    }

    private static void changesNothing() {
        for (States.State state : States.all()) {
            Unchanged.by("detectedBy " + state.name(), state.made(), DetectedByTest::askAll);
        }
    }

    private static void askAll(PodemTestGen x) {
        for (int f = 0; f < 2 * x.nodeCount(); f++) {
            x.detectedBy(f);
        }
        for (int f : Edges.outside(2 * x.nodeCount())) {
            x.detectedBy(f);
        }
    }
}
