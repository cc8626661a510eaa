/** Promise 6: nextTest. */
public final class NextTestTest {
    public static void main(String[] args) {
        redundantStepByStep();
        nothingToDo();
        untestableChangesOneFaultAlone();
        highestVector();
        severalOutputs();
        Check.end();
    }

    /** Worked out by hand: after each call the status and detecting test of every fault. */
    private static void redundantStepByStep() {
        PodemTestGen x = Nets.redundant();
        x.seal();
        step(x, 3, "1 0 1 0 1 0 0 0 0 0 1 0", "0 - 0 - 0 - - - - - 0 -");
        step(x, 2, "1 1 1 0 1 1 0 0 0 1 1 1", "0 1 0 - 0 1 - - - 1 0 1");
        step(x, 1, "1 1 1 1 1 1 0 1 0 1 1 1", "0 1 0 2 0 1 - 2 - 1 0 1");
        step(x, -1, "1 1 1 1 1 1 2 1 0 1 1 1", "0 1 0 2 0 1 - 2 - 1 0 1");
        step(x, -1, "1 1 1 1 1 1 2 1 2 1 1 1", "0 1 0 2 0 1 - 2 - 1 0 1");
        step(x, -2, "1 1 1 1 1 1 2 1 2 1 1 1", "0 1 0 2 0 1 - 2 - 1 0 1");
        Check.due("testCount()", x.testCount(), 3);
        int[][] tests = {{3, 0}, {2, 1}, {1, 3}};
        for (int t = 0; t < 3; t++) {
            Check.due("testVector(" + t + ")", x.testVector(t), tests[t][0]);
            Check.due("testTarget(" + t + ")", x.testTarget(t), tests[t][1]);
        }
    }

    private static void step(PodemTestGen x, int answer, String statuses, String detectors) {
        Check.due("nextTest()", x.nextTest(), answer);
        StringBuilder got = new StringBuilder();
        StringBuilder by = new StringBuilder();
        for (int f = 0; f < 12; f++) {
            String gap = f == 0 ? "" : " ";
            got.append(gap).append(x.faultStatus(f));
            by.append(gap).append(x.detectedBy(f) == -1 ? "-" : String.valueOf(x.detectedBy(f)));
        }
        Check.due("statuses after nextTest()", got.toString(), statuses);
        Check.due("detecting tests after nextTest()", by.toString(), detectors);
    }

    private static void nothingToDo() {
        PodemTestGen x = Nets.redundant();
        noneLeft(x, "before seal()");
        x.seal();
        for (int i = 0; i < 12; i++) {
            x.nextTest();
        }
        noneLeft(x, "after every fault");
    }

    private static void noneLeft(PodemTestGen x, String when) {
        for (int i = 0; i < 3; i++) {
            String before = Picture.of(x);
            Check.due("nextTest() " + when, x.nextTest(), PodemTestGen.RESULT_NONE);
            Check.due("state after nextTest() " + when, Picture.of(x), before);
        }
    }

    /** Nodes 1 to 31 reach no output, so their 62 faults are untestable, one at a call. */
    private static void untestableChangesOneFaultAlone() {
        PodemTestGen x = new PodemTestGen(32, 1);
        x.addInput();
        for (int n = 1; n < 32; n++) {
            x.addGate(PodemTestGen.KIND_NOT, 0, 0);
        }
        x.markOutput(0);
        x.seal();
        Check.due("nextTest() for fault 0", x.nextTest(), 1);
        Check.due("nextTest() for fault 1", x.nextTest(), 0);
        for (int f = 2; f < 64; f++) {
            Check.due("nextTest() for fault " + f, x.nextTest(), PodemTestGen.RESULT_UNTESTABLE);
            Check.due("faultStatus(" + f + ")", x.faultStatus(f), PodemTestGen.STATUS_UNTESTABLE);
            Check.due("detectedBy(" + f + ")", x.detectedBy(f), -1);
            Check.due("faultStatus(" + (f + 1) + ")", x.faultStatus(f + 1), f == 63 ? -1 : 0);
            Check.due("testCount()", x.testCount(), 2);
        }
        noneLeft(x, "after 64 faults");
    }

    /** An AND of all ten inputs: only the last vector, 1023, shows an input stuck at 0. */
    private static void highestVector() {
        PodemTestGen x = new PodemTestGen(32, 10);
        for (int k = 0; k < 10; k++) {
            x.addInput();
        }
        int last = 0;
        for (int k = 1; k < 10; k++) {
            last = x.addGate(PodemTestGen.KIND_AND, last, k);
        }
        x.markOutput(last);
        x.seal();
        Check.due("nextTest() for fault 0", x.nextTest(), 1023);
        for (int k = 0; k < 10; k++) {
            Check.due("nextTest() for input " + k + " stuck at 1", x.nextTest(), 1023 - (1 << k));
            Check.due("testTarget", x.testTarget(k + 1), 2 * k + 1);
        }
        Check.due("nextTest() at the end", x.nextTest(), PodemTestGen.RESULT_NONE);
        Check.due("testCount()", x.testCount(), 11);
    }

    /** Half adder: the sum alone shows input faults at vectors where the carry stays. */
    private static void severalOutputs() {
        PodemTestGen x = new PodemTestGen(8, 2);
        x.addInput();
        x.addInput();
        x.addGate(PodemTestGen.KIND_XOR, 0, 1);
        x.addGate(PodemTestGen.KIND_AND, 0, 1);
        x.markOutput(3);
        x.markOutput(2);
        x.seal();
        Check.due("nextTest() for fault 0", x.nextTest(), 1);
        Check.due("nextTest() for fault 1", x.nextTest(), 0);
        Check.due("nextTest() for fault 2", x.nextTest(), 2);
        Check.due("nextTest() for fault 6", x.nextTest(), 3);
        Check.due("testTarget(3)", x.testTarget(3), 6);
        Check.due("nextTest() at the end", x.nextTest(), PodemTestGen.RESULT_NONE);
    }
}
