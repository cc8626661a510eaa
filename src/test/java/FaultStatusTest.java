/** Promise 10: faultStatus. */
public final class FaultStatusTest {
    public static void main(String[] args) {
        Check.sentence("answers the status of fault f: STATUS_UNTRIED, STATUS_DETECTED or STATUS_UNTESTABLE.",
            FaultStatusTest::statuses);
        Check.sentence("Answers -1 if not sealed", FaultStatusTest::notSealed);
        Check.sentence("or if f < 0 or f >= 2*nodeCount.", FaultStatusTest::outOfRange);
        Check.sentence("Changes nothing.", FaultStatusTest::changesNothing);
        Check.end();
    }

    private static void statuses() {
        PodemTestGen x = Nets.sealedAt(Nets.redundant(), 5);
        String[] after = {"000000000000", "101010000010", "111011000111", "111111010111", "111111210111", "111111212111"};
        for (String row : after) {
            for (int f = 0; f < 12; f++) {
                Check.due("faultStatus(" + f + ") of " + row, x.faultStatus(f), row.charAt(f) - '0');
            }
            x.nextTest();
        }
    }

    private static void notSealed() {
        for (States.State state : States.open()) {
            PodemTestGen x = state.made().get();
            for (int f = 0; f < 64; f++) {
                Check.due("faultStatus(" + f + ") " + state.name(), x.faultStatus(f), -1);
            }
            x.nextTest();
            x.simulate(0);
            x.detects(0, 0);
            Check.due("faultStatus(0) " + state.name() + ", after questions", x.faultStatus(0), -1);
        }
    }

    private static void outOfRange() {
        for (States.State state : States.all()) {
            PodemTestGen x = state.made().get();
            for (int f : Edges.outside(2 * x.nodeCount())) {
                Check.due("faultStatus(" + f + ") " + state.name(), x.faultStatus(f), -1);
            }
        }
        for (int nodes = 1; nodes <= 32; nodes++) {
            PodemTestGen x = Nets.sealedAt(Nets.inverters(32, 1, nodes), 0);
            Check.due("faultStatus of the last of " + nodes, x.faultStatus(2 * nodes - 1), 0);
            Check.due("faultStatus past the last of " + nodes, x.faultStatus(2 * nodes), -1);
        }
    }

    private static void changesNothing() {
        for (States.State state : States.all()) {
            Unchanged.by("faultStatus " + state.name(), state.made(), FaultStatusTest::askAll);
        }
    }

    private static void askAll(PodemTestGen x) {
        for (int f = 0; f < 2 * x.nodeCount(); f++) {
            x.faultStatus(f);
        }
        for (int f : Edges.outside(2 * x.nodeCount())) {
            x.faultStatus(f);
        }
    }
}
