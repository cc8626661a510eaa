/** Netlists that several tests use. */
final class Nets {
    static final int[] WRONG = {-1, -2, Integer.MIN_VALUE, Integer.MAX_VALUE, 1 << 30, 64, 1024};

    private Nets() {
    }

    /** Inputs 0 and 1, and one gate of the kind at node 2, which is the only output; not sealed. */
    static PodemTestGen oneGate(int kind) {
        PodemTestGen x = new PodemTestGen(8, 2);
        x.addInput();
        x.addInput();
        x.addGate(kind, 0, 1);
        x.markOutput(2);
        return x;
    }

    /**
     * y = (a AND b) OR (a AND NOT a), with output y = node 5; not sealed.
     * Node 4 is always 0, so its stuck-at-0 fault has no test.
     */
    static PodemTestGen redundant() {
        PodemTestGen x = new PodemTestGen(8, 2);
        x.addInput();
        x.addInput();
        x.addGate(PodemTestGen.KIND_AND, 0, 1);
        x.addGate(PodemTestGen.KIND_NOT, 0, 0);
        x.addGate(PodemTestGen.KIND_AND, 0, 3);
        x.addGate(PodemTestGen.KIND_OR, 2, 4);
        x.markOutput(5);
        return x;
    }

    /** As many inputs as told, an XOR chain over them, its end the output; not sealed. */
    static PodemTestGen parity(int inputs) {
        PodemTestGen x = new PodemTestGen(32, 10);
        for (int k = 0; k < inputs; k++) {
            x.addInput();
        }
        int last = 0;
        for (int k = 1; k < inputs; k++) {
            last = x.addGate(PodemTestGen.KIND_XOR, last, k);
        }
        x.markOutput(last);
        return x;
    }
}
