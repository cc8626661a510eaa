import java.util.ArrayList;
import java.util.List;
import java.util.function.Function;

/** What an object tells and does, in parts. Each part asks only the method that it is named for. */
final class Views {
    record View(String name, Function<PodemTestGen, String> of) {
    }

    private static final int NODES = PodemTestGen.MAX_NODES;
    private static final int FAULTS = 2 * NODES;
    private static final int TESTS = FAULTS;

    private Views() {
    }

    /** What the getters tell; asking changes nothing, if the document is kept to. */
    static List<View> told() {
        return List.of(
            new View("nodeCount", x -> " " + x.nodeCount()),
            new View("nodeKind", x -> each(NODES, x::nodeKind)),
            new View("isOutput", x -> each(NODES, x::isOutput)),
            new View("faultStatus", x -> each(FAULTS, x::faultStatus)),
            new View("detectedBy", x -> each(FAULTS, x::detectedBy)),
            new View("testCount", x -> " " + x.testCount()),
            new View("testVector", x -> each(TESTS, x::testVector)),
            new View("testTarget", x -> each(TESTS, x::testTarget)),
            new View("evaluate", x -> eachVector(v -> each(NODES, n -> x.evaluate(v, n)))),
            new View("detects", x -> eachVector(v -> each(FAULTS, f -> x.detects(v, f)))),
            new View("simulate", x -> eachVector(v -> " " + x.simulate(v))));
    }

    /** What no getter tells, seen in what the object does next; looking uses it up. */
    static List<View> done() {
        return List.of(
            new View("nextTest", Views::nextTests),
            new View("seal", x -> " " + x.seal() + nextTests(x)),
            new View("addInput and seal", x -> " " + x.addInput() + " " + x.seal()),
            new View("addInput, addGate, markOutput and seal", Views::filled));
    }

    static List<View> all() {
        List<View> all = new ArrayList<>(told());
        all.addAll(done());
        return all;
    }

    /** Meets both limits, the ordinals and operands to come, and whether a new node is marked. */
    private static String filled(PodemTestGen x) {
        StringBuilder s = new StringBuilder();
        for (int i = 0; i <= PodemTestGen.MAX_INPUTS; i++) {
            s.append(" ").append(x.addInput());
        }
        for (int i = 0; i <= NODES; i++) {
            s.append(" ").append(x.addGate(PodemTestGen.KIND_XOR, i, i / 2));
        }
        for (int i = 0; i <= NODES; i += 7) {
            s.append(" ").append(x.markOutput(i));
        }
        return s.append(" ").append(x.seal()).append(nextTests(x)).toString();
    }

    private static String nextTests(PodemTestGen x) {
        return each(FAULTS + 1, i -> x.nextTest());
    }

    private static String each(int end, Function<Integer, Object> asked) {
        StringBuilder s = new StringBuilder();
        for (int i = 0; i <= end; i++) {
            s.append(" ").append(i).append(":").append(asked.apply(i));
        }
        return s.toString();
    }

    /** The first vectors, and those beside each place where they can end. */
    private static String eachVector(Function<Integer, String> asked) {
        StringBuilder s = new StringBuilder();
        for (int v = 0; v <= 8; v++) {
            s.append(" vector ").append(v).append(asked.apply(v));
        }
        for (int k = 4; k <= PodemTestGen.MAX_INPUTS + 1; k++) {
            int last = (1 << k) - 1;
            s.append(" vector ").append(last).append(asked.apply(last));
        }
        return s.toString();
    }
}
