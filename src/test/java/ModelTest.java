import java.util.Random;

/** All promises at once: runs of drawn calls, good and wrong ones, held against the model; the seeds are fixed. */
public final class ModelTest {
    private static final int RUNS = 400;
    private static final int[] EXTREMES = {
        Integer.MIN_VALUE, Integer.MIN_VALUE + 1, -65, -33, -2, -1, 0, 1, 7, 8, 9, 10, 11, 31, 32, 33,
        63, 64, 65, 1023, 1024, 1025, 1 << 16, 1 << 30, Integer.MAX_VALUE - 1, Integer.MAX_VALUE};

    private final Random random;
    private final PodemTestGen x;
    private final Model model;
    private final String name;

    private ModelTest(int seed) {
        random = new Random(seed);
        int nodeLimit = drawn(0, 34);
        int inputLimit = drawn(0, 12);
        x = new PodemTestGen(nodeLimit, inputLimit);
        model = new Model(nodeLimit, inputLimit);
        name = "seed " + seed + ": ";
    }

    public static void main(String[] args) {
        for (int seed = 0; seed < RUNS; seed++) {
            new ModelTest(seed).run();
        }
        Check.end();
    }

    private void run() {
        int building = 5 + random.nextInt(60);
        for (int i = 0; i < building; i++) {
            build();
            if (random.nextInt(4) == 0) {
                ask();
            }
        }
        getters();
        Check.due(name + "seal()", x.seal(), model.seal());
        getters();
        for (int i = 0; i < 70; i++) {
            Check.due(name + "nextTest()", x.nextTest(), model.nextTest());
            if (random.nextInt(8) == 0) {
                build();
                ask();
                getters();
            }
        }
        getters();
        everyVectorNow();
    }

    private void build() {
        int n = x.nodeCount();
        switch (random.nextInt(12)) {
            case 0, 1, 2 -> Check.due(name + "addInput()", x.addInput(), model.addInput());
            case 3, 4 -> {
                int node = drawn(0, n);
                Check.due(name + "markOutput(" + node + ")", x.markOutput(node), model.markOutput(node));
            }
            case 5 -> {
                if (random.nextInt(8) == 0) {
                    Check.due(name + "seal()", x.seal(), model.seal());
                }
            }
            case 6 -> Check.due(name + "nextTest()", x.nextTest(), model.nextTest());
            default -> {
                int kind = drawn(0, 8);
                int a = drawn(0, n);
                int b = drawn(0, n);
                String call = name + "addGate(" + kind + ", " + a + ", " + b + ")";
                Check.due(call, x.addGate(kind, a, b), model.addGate(kind, a, b));
            }
        }
    }

    private void ask() {
        int n = x.nodeCount();
        for (int i = 0; i < 4; i++) {
            int v = drawn(0, 1 << random.nextInt(11));
            int node = drawn(0, n);
            int f = drawn(0, 2 * n);
            Check.due(name + "evaluate(" + v + ", " + node + ")", x.evaluate(v, node), model.evaluate(v, node));
            Check.due(name + "detects(" + v + ", " + f + ")", x.detects(v, f), model.detects(v, f));
            Check.due(name + "simulate(" + v + ")", x.simulate(v), model.simulate(v));
        }
    }

    private void getters() {
        Check.due(name + "nodeCount()", x.nodeCount(), model.nodeCount());
        Check.due(name + "testCount()", x.testCount(), model.testCount());
        for (int i = -2; i < 67; i++) {
            gettersAt(i);
        }
        for (int i : EXTREMES) {
            gettersAt(i);
        }
    }

    private void gettersAt(int i) {
        Check.due(name + "nodeKind(" + i + ")", x.nodeKind(i), model.nodeKind(i));
        Check.due(name + "isOutput(" + i + ")", x.isOutput(i), model.isOutput(i));
        Check.due(name + "faultStatus(" + i + ")", x.faultStatus(i), model.faultStatus(i));
        Check.due(name + "detectedBy(" + i + ")", x.detectedBy(i), model.detectedBy(i));
        Check.due(name + "testVector(" + i + ")", x.testVector(i), model.testVector(i));
        Check.due(name + "testTarget(" + i + ")", x.testTarget(i), model.testTarget(i));
    }

    private void everyVectorNow() {
        for (int v = -1; v <= 1024; v++) {
            Check.due(name + "simulate(" + v + ")", x.simulate(v), model.simulate(v));
        }
        for (int f = -1; f <= 2 * x.nodeCount(); f++) {
            int v = random.nextInt(1024);
            Check.due(name + "detects(" + v + ", " + f + ")", x.detects(v, f), model.detects(v, f));
        }
    }

    /** Mostly from least to greatest, now and then any of the extremes. */
    private int drawn(int least, int greatest) {
        if (random.nextInt(15) == 0) {
            return EXTREMES[random.nextInt(EXTREMES.length)];
        }
        return least + random.nextInt(greatest - least + 1);
    }
}
