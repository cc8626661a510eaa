/** Everything that the public face tells of an object, as one text: equal texts mean that nothing changed. */
final class Picture {
    private Picture() {
    }

    static String of(PodemTestGen x) {
        StringBuilder s = new StringBuilder();
        s.append("nodes ").append(x.nodeCount()).append(" tests ").append(x.testCount());
        for (int n = -1; n <= PodemTestGen.MAX_NODES; n++) {
            s.append(" n").append(n).append(':').append(x.nodeKind(n)).append(x.isOutput(n) ? "o" : "-");
        }
        for (int f = -1; f <= 2 * PodemTestGen.MAX_NODES; f++) {
            s.append(" f").append(f).append(':').append(x.faultStatus(f)).append('/').append(x.detectedBy(f));
        }
        for (int t = -1; t <= 2 * PodemTestGen.MAX_NODES; t++) {
            s.append(" t").append(t).append(':').append(x.testVector(t)).append('/').append(x.testTarget(t));
        }
        for (int v = -1; v <= 16; v++) {
            vector(s, x, v);
        }
        // Where the vectors end is how many inputs there are.
        for (int k = 5; k <= PodemTestGen.MAX_INPUTS + 1; k++) {
            vector(s, x, (1 << k) - 1);
        }
        return s.toString();
    }

    private static void vector(StringBuilder s, PodemTestGen x, int v) {
        s.append(" v").append(v).append(':').append(x.simulate(v)).append('/');
        for (int n = 0; n < x.nodeCount(); n++) {
            s.append(x.evaluate(v, n)).append(x.detects(v, 2 * n) ? 'y' : 'n').append(x.detects(v, 2 * n + 1) ? 'y' : 'n');
        }
    }
}
