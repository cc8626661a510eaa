public final class PodemTestGen {
    public static final int MAX_NODES = 32;
    public static final int MAX_INPUTS = 10;

    public static final int KIND_BUF = 0;
    public static final int KIND_NOT = 1;
    public static final int KIND_AND = 2;
    public static final int KIND_NAND = 3;
    public static final int KIND_OR = 4;
    public static final int KIND_NOR = 5;
    public static final int KIND_XOR = 6;
    public static final int KIND_XNOR = 7;
    public static final int KIND_INPUT = 8;

    public static final int STATUS_UNTRIED = 0;
    public static final int STATUS_DETECTED = 1;
    public static final int STATUS_UNTESTABLE = 2;

    public static final int RESULT_UNTESTABLE = -1;
    public static final int RESULT_NONE = -2;

    private static final int LEAST_NODE_LIMIT = 8;
    private static final int LEAST_INPUT_LIMIT = 1;
    private static final int MAX_FAULTS = 64;
    private static final int REFUSED = -1;
    private static final int NONE = -1;

    private final int nodeLimit;
    private final int inputLimit;

    private final int[] kinds = new int[MAX_NODES];
    private final int[] firstOperands = new int[MAX_NODES];
    private final int[] secondOperands = new int[MAX_NODES];
    private final int[] ordinals = new int[MAX_NODES];
    private final boolean[] outputs = new boolean[MAX_NODES];
    private int nodeTotal = 0;
    private int inputTotal = 0;
    private int outputTotal = 0;
    private boolean sealed = false;

    private final int[] statuses = new int[MAX_FAULTS];
    private final int[] detectors = new int[MAX_FAULTS];

    // Every test takes at least its target out of the untried faults, so there
    // are never more tests than faults.
    private final int[] vectors = new int[MAX_FAULTS];
    private final int[] targets = new int[MAX_FAULTS];
    private int testTotal = 0;

    // Scratch of one evaluation; nothing is read from it that the same call
    // has not written first.
    private final int[] goodValues = new int[MAX_NODES];
    private final int[] faultyValues = new int[MAX_NODES];

    public PodemTestGen(int nodeLimit, int inputLimit) {
        this.nodeLimit = clamp(nodeLimit, LEAST_NODE_LIMIT, MAX_NODES);
        this.inputLimit = clamp(inputLimit, LEAST_INPUT_LIMIT, MAX_INPUTS);
    }

    public int addInput() {
        if (sealed || nodeTotal >= nodeLimit || inputTotal >= inputLimit) {
            return REFUSED;
        }
        int node = appendNode(KIND_INPUT, 0, 0);
        ordinals[node] = inputTotal;
        inputTotal++;
        return node;
    }

    public int addGate(int kind, int a, int b) {
        if (sealed || nodeTotal >= nodeLimit) {
            return REFUSED;
        }
        if (kind < KIND_BUF || kind > KIND_XNOR || !isNode(a)) {
            return REFUSED;
        }
        if (kind < KIND_AND) {
            // b may be any int here; a stands in for it, being a safe index.
            return appendNode(kind, a, a);
        }
        if (!isNode(b)) {
            return REFUSED;
        }
        return appendNode(kind, a, b);
    }

    public boolean markOutput(int node) {
        if (sealed || !isNode(node) || outputs[node]) {
            return false;
        }
        outputs[node] = true;
        outputTotal++;
        return true;
    }

    public boolean seal() {
        if (sealed || inputTotal == 0 || outputTotal == 0) {
            return false;
        }
        for (int f = 0; f < MAX_FAULTS; f++) {
            statuses[f] = STATUS_UNTRIED;
            detectors[f] = NONE;
        }
        sealed = true;
        return true;
    }

    public int nextTest() {
        // After MAX_FAULTS tests no fault is untried; the count is looked at all
        // the same, since recordTest takes it for an index.
        if (!sealed || testTotal >= MAX_FAULTS) {
            return RESULT_NONE;
        }
        int target = leastUntriedFault();
        if (target == NONE) {
            return RESULT_NONE;
        }
        int vector = leastDetectingVector(target);
        if (vector == NONE) {
            statuses[target] = STATUS_UNTESTABLE;
            return RESULT_UNTESTABLE;
        }
        recordTest(vector, target);
        return vector;
    }

    public int nodeCount() {
        return nodeTotal;
    }

    public int nodeKind(int node) {
        return isNode(node) ? kinds[node] : REFUSED;
    }

    public boolean isOutput(int node) {
        return isNode(node) && outputs[node];
    }

    public int faultStatus(int f) {
        return sealed && isFault(f) ? statuses[f] : REFUSED;
    }

    public int detectedBy(int f) {
        return sealed && isFault(f) ? detectors[f] : NONE;
    }

    public int testCount() {
        return testTotal;
    }

    public int testVector(int t) {
        return isTest(t) ? vectors[t] : REFUSED;
    }

    public int testTarget(int t) {
        return isTest(t) ? targets[t] : REFUSED;
    }

    public int evaluate(int v, int node) {
        if (!isVector(v) || !isNode(node)) {
            return REFUSED;
        }
        fillValues(goodValues, v, NONE, 0);
        return goodValues[node];
    }

    public boolean detects(int v, int f) {
        return isVector(v) && isFault(f) && uncovers(v, f);
    }

    public int simulate(int v) {
        if (!isVector(v)) {
            return REFUSED;
        }
        int found = 0;
        for (int f = 0; f < 2 * nodeTotal; f++) {
            if (uncovers(v, f)) {
                found++;
            }
        }
        return found;
    }

    private static int clamp(int value, int least, int greatest) {
        if (value < least) {
            return least;
        }
        return value > greatest ? greatest : value;
    }

    private boolean isNode(int node) {
        return node >= 0 && node < nodeTotal;
    }

    private boolean isFault(int f) {
        return f >= 0 && f < 2 * nodeTotal;
    }

    private boolean isTest(int t) {
        return t >= 0 && t < testTotal;
    }

    private boolean isVector(int v) {
        return v >= 0 && v < (1 << inputTotal);
    }

    private int appendNode(int kind, int a, int b) {
        int node = nodeTotal;
        kinds[node] = kind;
        firstOperands[node] = a;
        secondOperands[node] = b;
        nodeTotal++;
        return node;
    }

    private int leastUntriedFault() {
        for (int f = 0; f < 2 * nodeTotal; f++) {
            if (statuses[f] == STATUS_UNTRIED) {
                return f;
            }
        }
        return NONE;
    }

    private int leastDetectingVector(int f) {
        for (int v = 0; v < (1 << inputTotal); v++) {
            if (uncovers(v, f)) {
                return v;
            }
        }
        return NONE;
    }

    private void recordTest(int vector, int target) {
        int t = testTotal;
        vectors[t] = vector;
        targets[t] = target;
        testTotal++;
        for (int f = 0; f < 2 * nodeTotal; f++) {
            if (statuses[f] == STATUS_UNTRIED && uncovers(vector, f)) {
                statuses[f] = STATUS_DETECTED;
                detectors[f] = t;
            }
        }
    }

    // Needs v and f in range: the callers have looked.
    private boolean uncovers(int v, int f) {
        fillValues(goodValues, v, NONE, 0);
        fillValues(faultyValues, v, f / 2, f % 2);
        for (int node = 0; node < nodeTotal; node++) {
            if (outputs[node] && goodValues[node] != faultyValues[node]) {
                return true;
            }
        }
        return false;
    }

    // With stuckNode NONE this is the good evaluation.
    private void fillValues(int[] values, int v, int stuckNode, int stuckValue) {
        for (int node = 0; node < nodeTotal; node++) {
            if (node == stuckNode) {
                values[node] = stuckValue;
            } else if (kinds[node] == KIND_INPUT) {
                values[node] = (v >> ordinals[node]) & 1;
            } else {
                int a = values[firstOperands[node]];
                int b = values[secondOperands[node]];
                values[node] = gateValue(kinds[node], a, b);
            }
        }
    }

    private static int gateValue(int kind, int a, int b) {
        switch (kind) {
            case KIND_BUF:
                return a;
            case KIND_NOT:
                return 1 - a;
            case KIND_AND:
                return a & b;
            case KIND_NAND:
                return 1 - (a & b);
            case KIND_OR:
                return a | b;
            case KIND_NOR:
                return 1 - (a | b);
            case KIND_XOR:
                return a ^ b;
            default:
                return 1 - (a ^ b);
        }
    }
}
