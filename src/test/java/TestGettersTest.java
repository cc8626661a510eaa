/** Promises 12 and 13: testCount, testVector and testTarget. */
public final class TestGettersTest {
    public static void main(String[] args) {
        countsVectorsOnly();
        vectorsAndTargets();
        Check.end();
    }

    private static void countsVectorsOnly() {
        PodemTestGen x = Nets.redundant();
        Check.due("testCount() before seal()", x.testCount(), 0);
        x.nextTest();
        Check.due("testCount() after nextTest() before seal()", x.testCount(), 0);
        x.seal();
        Check.due("testCount() after seal()", x.testCount(), 0);
        int[] counts = {1, 2, 3, 3, 3, 3, 3};
        for (int count : counts) {
            x.nextTest();
            Check.due("testCount() after nextTest()", x.testCount(), count);
        }
        x.simulate(1);
        x.detects(1, 1);
        Check.due("testCount() after simulate", x.testCount(), 3);
    }

    private static void vectorsAndTargets() {
        PodemTestGen x = Nets.redundant();
        Check.due("testVector(0) before seal()", x.testVector(0), -1);
        Check.due("testTarget(0) before seal()", x.testTarget(0), -1);
        x.seal();
        int[] vectors = {3, 2, 1, -1, -1, -1};
        int[] targets = {0, 1, 3, -1, -1, -1};
        for (int made = 0; made <= 5; made++) {
            for (int t = 0; t < 6; t++) {
                boolean known = t < made;
                Check.due("testVector(" + t + ") after " + made, x.testVector(t), known ? vectors[t] : -1);
                Check.due("testTarget(" + t + ") after " + made, x.testTarget(t), known ? targets[t] : -1);
            }
            x.nextTest();
        }
        String before = Picture.of(x);
        for (int t : Nets.WRONG) {
            Check.due("testVector(" + t + ")", x.testVector(t), -1);
            Check.due("testTarget(" + t + ")", x.testTarget(t), -1);
        }
        for (int t = 0; t < 3; t++) {
            Check.due("test " + t + " detects its target", x.detects(x.testVector(t), x.testTarget(t)), true);
        }
        Check.due("state after the getters", Picture.of(x), before);
    }
}
