/** Promises 10 and 11: faultStatus and detectedBy. */
public final class FaultGettersTest {
    public static void main(String[] args) {
        beforeSeal();
        afterSeal();
        outOfRange();
        Check.end();
    }

    private static void beforeSeal() {
        PodemTestGen x = Nets.redundant();
        for (int f = -1; f <= 12; f++) {
            Check.due("faultStatus(" + f + ") before seal()", x.faultStatus(f), -1);
            Check.due("detectedBy(" + f + ") before seal()", x.detectedBy(f), -1);
        }
    }

    private static void afterSeal() {
        PodemTestGen x = Nets.redundant();
        x.seal();
        for (int i = 0; i < 12; i++) {
            x.nextTest();
        }
        int[] statuses = {1, 1, 1, 1, 1, 1, 2, 1, 2, 1, 1, 1};
        int[] detectors = {0, 1, 0, 2, 0, 1, -1, 2, -1, 1, 0, 1};
        for (int f = 0; f < 12; f++) {
            Check.due("faultStatus(" + f + ")", x.faultStatus(f), statuses[f]);
            Check.due("detectedBy(" + f + ")", x.detectedBy(f), detectors[f]);
        }
    }

    private static void outOfRange() {
        PodemTestGen x = Nets.redundant();
        x.seal();
        x.nextTest();
        String before = Picture.of(x);
        Check.due("faultStatus(11)", x.faultStatus(11), 0);
        Check.due("faultStatus(12)", x.faultStatus(12), -1);
        Check.due("detectedBy(12)", x.detectedBy(12), -1);
        for (int f : Nets.WRONG) {
            Check.due("faultStatus(" + f + ")", x.faultStatus(f), -1);
            Check.due("detectedBy(" + f + ")", x.detectedBy(f), -1);
        }
        Check.due("state after the getters", Picture.of(x), before);
    }
}
