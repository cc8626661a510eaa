/** Promise 12: testCount. */
public final class TestCountTest {
    public static void main(String[] args) {
        Check.sentence("`testCount()` answers the number of tests recorded: 0 before seal", TestCountTest::beforeSeal);
        Check.sentence("0 right after seal", TestCountTest::rightAfterSeal);
        Check.sentence("increased by one by each `nextTest()` call that answers a vector.",
            TestCountTest::countsVectorsOnly);
        Check.sentence("Changes nothing.", TestCountTest::changesNothing);
        Check.end();
    }

    private static void beforeSeal() {
        for (States.State state : States.open()) {
            PodemTestGen x = state.made().get();
            Check.due("testCount() " + state.name(), x.testCount(), 0);
            Nets.after(x, 3);
            x.simulate(0);
            Check.due("testCount() after nextTest() " + state.name(), x.testCount(), 0);
        }
    }

    private static void rightAfterSeal() {
        for (int nodes = 1; nodes <= 32; nodes++) {
            PodemTestGen x = Nets.after(Nets.inverters(32, 1, nodes), 3);
            Check.due("testCount() of " + nodes + " nodes after seal()", Nets.sealedAt(x, 0).testCount(), 0);
        }
        Check.due("testCount() after a refused seal()", Nets.sealedAt(Nets.inputs(8, 1, 1), 1).testCount(), 0);
    }

    private static void countsVectorsOnly() {
        PodemTestGen x = Nets.sealedAt(Nets.redundant(), 5);
        int[] counts = {1, 2, 3, 3, 3, 3, 3};
        for (int count : counts) {
            x.nextTest();
            Check.due("testCount() after nextTest()", x.testCount(), count);
        }
        x.seal();
        x.simulate(1);
        x.detects(1, 1);
        Check.due("testCount() after other calls", x.testCount(), 3);
        // The second answer is vector 0, which counts like any other.
        PodemTestGen y = Nets.sealedAt(Nets.inverters(32, 1, 32), 0);
        for (int i = 1; i <= 66; i++) {
            y.nextTest();
            Check.due("testCount() after " + i + " calls", y.testCount(), Math.min(i, 2));
        }
        PodemTestGen z = Nets.sealedAt(Nets.chain(PodemTestGen.KIND_AND, 10), 18);
        for (int i = 1; i <= 20; i++) {
            z.nextTest();
            Check.due("testCount() after " + i + " calls", z.testCount(), Math.min(i, 11));
        }
        PodemTestGen most = Nets.sealedAt(Nets.pairs(), 0);
        for (int i = 1; i <= 40; i++) {
            most.nextTest();
            Check.due("testCount() after " + i + " calls", most.testCount(), Math.min(i, 33));
        }
    }

    private static void changesNothing() {
        for (States.State state : States.all()) {
            Unchanged.by("testCount() " + state.name(), state.made(), PodemTestGen::testCount);
        }
    }
}
