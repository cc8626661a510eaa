import java.util.ArrayList;
import java.util.List;
import java.util.function.Supplier;

/** Objects in every state that the document tells apart, each made anew when asked for. */
final class States {
    record State(String name, Supplier<PodemTestGen> made) {
    }

    private States() {
    }

    static List<State> all() {
        List<State> all = new ArrayList<>(open());
        all.addAll(sealed());
        return all;
    }

    static List<State> open() {
        return List.of(
            new State("new, with the least limits", () -> new PodemTestGen(8, 1)),
            new State("new, with the greatest limits", () -> new PodemTestGen(32, 10)),
            new State("open, after refused calls", States::afterRefusals),
            new State("open, one input, no output", () -> Nets.inputs(8, 2, 1)),
            new State("open, full of inputs, no output", () -> Nets.inputs(32, 10, 10)),
            new State("open, an input as output", States::inputAsOutput),
            new State("open, redundant", Nets::redundant),
            new State("open, parity of ten", () -> Nets.parity(10)),
            new State("open, eight inputs at the node limit", () -> Nets.inputs(8, 10, 8)),
            new State("open, at the least node limit", () -> Nets.inverters(8, 1, 8)),
            new State("open, at the greatest node limit", () -> Nets.inverters(32, 10, 32)));
    }

    static List<State> sealed() {
        List<State> sealed = new ArrayList<>();
        for (int calls = 0; calls <= 6; calls++) {
            int made = calls;
            sealed.add(new State("sealed, redundant, " + made + " nextTest()",
                () -> Nets.after(Nets.sealedAt(Nets.redundant(), 5), made)));
        }
        sealed.add(new State("sealed with room", Nets::sealedWithRoom));
        sealed.add(new State("sealed, one node", () -> Nets.sealedAt(Nets.inputs(8, 1, 1), 0)));
        sealed.add(new State("sealed, parity of ten", () -> Nets.after(Nets.sealedAt(Nets.parity(10), 18), 1)));
        sealed.add(new State("sealed, with 32 tests of 33", () -> Nets.after(Nets.sealedAt(Nets.pairs(), 0), 32)));
        sealed.add(new State("sealed, with 33 tests", () -> Nets.after(Nets.sealedAt(Nets.pairs(), 0), 33)));
        sealed.add(new State("sealed, 32 nodes", () -> Nets.sealedAt(Nets.inverters(32, 1, 32), 31)));
        sealed.add(new State("sealed, 32 nodes, midway",
            () -> Nets.after(Nets.sealedAt(Nets.inverters(32, 1, 32), 0), 30)));
        sealed.add(new State("sealed, 32 nodes, all done",
            () -> Nets.after(Nets.sealedAt(Nets.inverters(32, 1, 32), 0), 65)));
        return sealed;
    }

    private static PodemTestGen afterRefusals() {
        PodemTestGen x = new PodemTestGen(8, 2);
        x.seal();
        x.nextTest();
        x.markOutput(0);
        x.addGate(PodemTestGen.KIND_NOT, 0, 0);
        return x;
    }

    private static PodemTestGen inputAsOutput() {
        PodemTestGen x = Nets.inputs(8, 2, 2);
        x.markOutput(0);
        return x;
    }
}
