import java.util.ArrayList;
import java.util.BitSet;
import java.util.List;

/**
 * A second model of the document. It works on whole truth tables: a node's
 * table has bit v set when the node is 1 under vector v. So it shares no way of
 * working with the class it is held against.
 */
final class Model {
    private record Node(int kind, int a, int b, int ordinal) {
    }

    private record Test(int vector, int target) {
    }

    private final int nodeLimit;
    private final int inputLimit;
    private final List<Node> nodes = new ArrayList<>();
    private final BitSet outputs = new BitSet();
    private final List<Test> tests = new ArrayList<>();
    private final BitSet untestable = new BitSet();
    private final int[] detector = new int[64];
    private int inputs = 0;
    private boolean sealed = false;
    private List<BitSet> detections = null;

    Model(int nodeLimit, int inputLimit) {
        this.nodeLimit = Math.max(8, Math.min(32, nodeLimit));
        this.inputLimit = Math.max(1, Math.min(10, inputLimit));
        java.util.Arrays.fill(detector, -1);
    }

    int addInput() {
        if (sealed || nodes.size() == nodeLimit || inputs == inputLimit) {
            return -1;
        }
        detections = null;
        nodes.add(new Node(8, -1, -1, inputs++));
        return nodes.size() - 1;
    }

    int addGate(int kind, int a, int b) {
        boolean operands = hasNode(a) && (kind < 2 || hasNode(b));
        if (sealed || nodes.size() == nodeLimit || kind < 0 || kind > 7 || !operands) {
            return -1;
        }
        detections = null;
        nodes.add(new Node(kind, a, kind < 2 ? -1 : b, -1));
        return nodes.size() - 1;
    }

    boolean markOutput(int node) {
        if (sealed || !hasNode(node) || outputs.get(node)) {
            return false;
        }
        detections = null;
        outputs.set(node);
        return true;
    }

    boolean seal() {
        if (sealed || inputs == 0 || outputs.isEmpty()) {
            return false;
        }
        sealed = true;
        return true;
    }

    int nextTest() {
        for (int f = 0; sealed && f < 2 * nodes.size(); f++) {
            if (faultStatus(f) == 0) {
                return handle(f);
            }
        }
        return -2;
    }

    private int handle(int target) {
        int vector = detections().get(target).nextSetBit(0);
        if (vector < 0) {
            untestable.set(target);
            return -1;
        }
        tests.add(new Test(vector, target));
        for (int f = 0; f < 2 * nodes.size(); f++) {
            if (faultStatus(f) == 0 && detections().get(f).get(vector)) {
                detector[f] = tests.size() - 1;
            }
        }
        return vector;
    }

    int nodeCount() {
        return nodes.size();
    }

    int nodeKind(int node) {
        return hasNode(node) ? nodes.get(node).kind() : -1;
    }

    boolean isOutput(int node) {
        return hasNode(node) && outputs.get(node);
    }

    int faultStatus(int f) {
        if (!sealed || !hasFault(f)) {
            return -1;
        }
        return untestable.get(f) ? 2 : detector[f] >= 0 ? 1 : 0;
    }

    int detectedBy(int f) {
        return sealed && hasFault(f) ? detector[f] : -1;
    }

    int testCount() {
        return tests.size();
    }

    int testVector(int t) {
        return t >= 0 && t < tests.size() ? tests.get(t).vector() : -1;
    }

    int testTarget(int t) {
        return t >= 0 && t < tests.size() ? tests.get(t).target() : -1;
    }

    int evaluate(int v, int node) {
        if (!hasVector(v) || !hasNode(node)) {
            return -1;
        }
        return tables(-1).get(node).get(v) ? 1 : 0;
    }

    boolean detects(int v, int f) {
        return hasVector(v) && hasFault(f) && detections().get(f).get(v);
    }

    int simulate(int v) {
        if (!hasVector(v)) {
            return -1;
        }
        return (int) detections().stream().filter(d -> d.get(v)).count();
    }

    private boolean hasNode(int node) {
        return node >= 0 && node < nodes.size();
    }

    private boolean hasFault(int f) {
        return f >= 0 && f < 2 * nodes.size();
    }

    private boolean hasVector(int v) {
        return v >= 0 && v < 1 << inputs;
    }

    /** For each fault the set of vectors that detect it. */
    private List<BitSet> detections() {
        if (detections == null) {
            List<BitSet> good = tables(-1);
            detections = new ArrayList<>();
            for (int f = 0; f < 2 * nodes.size(); f++) {
                List<BitSet> faulty = tables(f);
                BitSet found = new BitSet();
                for (int n = outputs.nextSetBit(0); n >= 0; n = outputs.nextSetBit(n + 1)) {
                    BitSet apart = (BitSet) good.get(n).clone();
                    apart.xor(faulty.get(n));
                    found.or(apart);
                }
                detections.add(found);
            }
        }
        return detections;
    }

    private List<BitSet> tables(int fault) {
        List<BitSet> tables = new ArrayList<>();
        for (int n = 0; n < nodes.size(); n++) {
            BitSet table = new BitSet();
            if (fault >= 0 && fault >> 1 == n) {
                table.set(0, 1 << inputs, (fault & 1) == 1);
            } else {
                table = table(nodes.get(n), tables);
            }
            tables.add(table);
        }
        return tables;
    }

    private BitSet table(Node node, List<BitSet> tables) {
        BitSet table = new BitSet();
        if (node.kind() == 8) {
            for (int v = 0; v < 1 << inputs; v++) {
                table.set(v, (v / (1 << node.ordinal())) % 2 == 1);
            }
            return table;
        }
        table.or(tables.get(node.a()));
        switch (node.kind() / 2) {
            case 1 -> table.and(tables.get(node.b()));
            case 2 -> table.or(tables.get(node.b()));
            case 3 -> table.xor(tables.get(node.b()));
            default -> { }
        }
        if (node.kind() % 2 == 1) {
            table.flip(0, 1 << inputs);
        }
        return table;
    }
}
