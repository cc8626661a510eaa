/** Promise 15: detects. */
public final class DetectsTest {
    public static void main(String[] args) {
        redundantByHand();
        withoutOutputs();
        outputsAsTheyAreMarked();
        faultOfAnInputThatIsAnOutput();
        outOfRange();
        Check.end();
    }

    /** For each vector the faults it detects, y for yes, worked out by hand. */
    private static void redundantByHand() {
        String[] rows = {"nnnnnynnnynyn", "nnnynynynynyn", "nynnnynnnynyn", "ynynynnnnnynn"};
        PodemTestGen x = Nets.redundant();
        rows(x, rows, "before seal()");
        x.seal();
        rows(x, rows, "after seal()");
        for (int i = 0; i < 12; i++) {
            x.nextTest();
        }
        rows(x, rows, "after every fault");
    }

    private static void rows(PodemTestGen x, String[] rows, String when) {
        String before = Picture.of(x);
        for (int v = 0; v < 4; v++) {
            for (int f = 0; f < 13; f++) {
                Check.due("detects(" + v + ", " + f + ") " + when, x.detects(v, f), rows[v].charAt(f) == 'y');
            }
        }
        Check.due("state after detects " + when, Picture.of(x), before);
    }

    private static void withoutOutputs() {
        PodemTestGen x = new PodemTestGen(8, 2);
        Check.due("detects(0, 0) without nodes", x.detects(0, 0), false);
        x.addInput();
        x.addInput();
        x.addGate(PodemTestGen.KIND_XOR, 0, 1);
        for (int v = 0; v < 4; v++) {
            for (int f = 0; f < 6; f++) {
                Check.due("detects without outputs", x.detects(v, f), false);
            }
        }
    }

    private static void outputsAsTheyAreMarked() {
        PodemTestGen x = new PodemTestGen(8, 1);
        x.addInput();
        x.addGate(PodemTestGen.KIND_NOT, 0, 0);
        x.addGate(PodemTestGen.KIND_NOT, 0, 0);
        x.markOutput(1);
        Check.due("detects(0, 4) with output 1", x.detects(0, 4), false);
        Check.due("detects(0, 2) with output 1", x.detects(0, 2), true);
        x.markOutput(2);
        Check.due("detects(0, 4) with outputs 1 and 2", x.detects(0, 4), true);
        Check.due("detects(0, 2) with outputs 1 and 2", x.detects(0, 2), true);
        Check.due("detects(0, 3) with outputs 1 and 2", x.detects(0, 3), false);
    }

    private static void faultOfAnInputThatIsAnOutput() {
        PodemTestGen x = new PodemTestGen(8, 1);
        x.addInput();
        x.markOutput(0);
        Check.due("detects(0, 0)", x.detects(0, 0), false);
        Check.due("detects(0, 1)", x.detects(0, 1), true);
        Check.due("detects(1, 0)", x.detects(1, 0), true);
        Check.due("detects(1, 1)", x.detects(1, 1), false);
    }

    private static void outOfRange() {
        PodemTestGen x = Nets.redundant();
        String before = Picture.of(x);
        for (int wrong : Nets.WRONG) {
            for (int f = 0; f < 12; f++) {
                Check.due("detects(" + wrong + ", " + f + ")", x.detects(wrong, f), false);
            }
            for (int v = 0; v < 4; v++) {
                Check.due("detects(" + v + ", " + wrong + ")", x.detects(v, wrong), false);
            }
        }
        // 7 has the bits of 3, so a vector that were only masked would answer true.
        Check.due("detects(7, 0)", x.detects(7, 0), false);
        Check.due("detects(4, 11)", x.detects(4, 11), false);
        Check.due("state after detects", Picture.of(x), before);
    }
}
