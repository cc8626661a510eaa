/** Netlists that several tests use. */
final class Nets {
    private Nets() {
    }

    /** Inputs 0 and 1, and one gate of the kind at node 2, which is the only output; not sealed. */
    static PodemTestGen oneGate(int kind) {
        PodemTestGen x = new PodemTestGen(8, 2);
        x.addInput();
        x.addInput();
        x.addGate(kind, 0, 1);
        x.markOutput(2);
        return x;
    }

    /**
     * y = (a AND b) OR (a AND NOT a), with output y = node 5; not sealed.
     * Node 4 is always 0, so its stuck-at-0 fault has no test.
     */
    static PodemTestGen redundant() {
        PodemTestGen x = new PodemTestGen(8, 2);
        x.addInput();
        x.addInput();
        x.addGate(PodemTestGen.KIND_AND, 0, 1);
        x.addGate(PodemTestGen.KIND_NOT, 0, 0);
        x.addGate(PodemTestGen.KIND_AND, 0, 3);
        x.addGate(PodemTestGen.KIND_OR, 2, 4);
        x.markOutput(5);
        return x;
    }

    /** As many inputs as told, an XOR chain over them, its end the output; not sealed. */
    static PodemTestGen parity(int inputs) {
        return chain(PodemTestGen.KIND_XOR, inputs);
    }

    /** As many inputs as told, a chain of gates of the kind over them, its end the output; not sealed. */
    static PodemTestGen chain(int kind, int inputs) {
        PodemTestGen x = inputs(32, 10, inputs);
        int last = 0;
        for (int k = 1; k < inputs; k++) {
            last = x.addGate(kind, last, k);
        }
        x.markOutput(last);
        return x;
    }

    /**
     * Ten inputs, the AND of each of 22 pairs of them (those of pairVectors()), and
     * all 32 nodes marked; not sealed. Each node stuck at 0 needs a vector of its
     * own, and one more shows input 0 stuck at 1: more tests than nodes.
     */
    static PodemTestGen pairs() {
        PodemTestGen x = inputs(32, 10, 10);
        // The node limit refuses the pairs past the 22nd.
        for (int j = 1; j < 10; j++) {
            for (int i = 0; i < j; i++) {
                x.addGate(PodemTestGen.KIND_AND, i, j);
            }
        }
        for (int n = 0; n < 32; n++) {
            x.markOutput(n);
        }
        return x;
    }

    /** The vectors of the 33 tests of pairs(), in their order: input 0, none, each other input, each pair. */
    static int[] pairVectors() {
        return new int[] {
            1, 0, 2, 4, 8, 16, 32, 64, 128, 256, 512,
            3, 5, 6, 9, 10, 12, 17, 18, 20, 24, 33, 34, 36, 40, 48, 65, 66, 68, 72, 80, 96, 129};
    }

    /** An object of these limits with so many inputs, and nothing else. */
    static PodemTestGen inputs(int nodeLimit, int inputLimit, int inputs) {
        PodemTestGen x = new PodemTestGen(nodeLimit, inputLimit);
        for (int k = 0; k < inputs; k++) {
            x.addInput();
        }
        return x;
    }

    /** An object of these limits with one input, and as many inverters of it as make up so many nodes. */
    static PodemTestGen inverters(int nodeLimit, int inputLimit, int nodes) {
        PodemTestGen x = inputs(nodeLimit, inputLimit, 1);
        for (int n = 1; n < nodes; n++) {
            x.addGate(PodemTestGen.KIND_NOT, 0, 0);
        }
        return x;
    }

    /** The same object, with this node marked as output and sealed. */
    static PodemTestGen sealedAt(PodemTestGen x, int output) {
        x.markOutput(output);
        x.seal();
        return x;
    }

    /** The same object after so many calls of nextTest(). */
    static PodemTestGen after(PodemTestGen x, int calls) {
        for (int i = 0; i < calls; i++) {
            x.nextTest();
        }
        return x;
    }

    /** How many vectors are in range: one without inputs, and twice as many with each. */
    static int vectors(PodemTestGen x) {
        int vectors = 1;
        for (int n = 0; n < x.nodeCount(); n++) {
            vectors *= x.nodeKind(n) == PodemTestGen.KIND_INPUT ? 2 : 1;
        }
        return vectors;
    }

    /** Sealed, though both limits leave room, and with a node that is not marked. */
    static PodemTestGen sealedWithRoom() {
        return sealedAt(inverters(32, 10, 2), 1);
    }
}
