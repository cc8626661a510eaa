import java.util.function.Consumer;
import java.util.function.Supplier;

/** "Changes nothing": an object that was called must tell and do afterwards what its twin does that was not. */
final class Unchanged {
    private Unchanged() {
    }

    static void by(String calls, Supplier<PodemTestGen> made, Consumer<PodemTestGen> call) {
        PodemTestGen called = made.get();
        PodemTestGen twin = made.get();
        call.accept(called);
        Check.due("what it tells after " + calls, Picture.of(called), Picture.of(twin));
        Check.due("what it does after " + calls, future(called), future(twin));
    }

    /**
     * The answers to calls that meet what no getter tells: both limits, whether it
     * is sealed, the ordinals and operands to come, and which fault is handled next.
     */
    private static String future(PodemTestGen x) {
        StringBuilder s = new StringBuilder();
        s.append(" next ").append(x.nextTest());
        for (int i = 0; i <= PodemTestGen.MAX_INPUTS; i++) {
            s.append(" input ").append(x.addInput());
        }
        for (int i = 0; i <= PodemTestGen.MAX_NODES; i++) {
            s.append(" gate ").append(x.addGate(PodemTestGen.KIND_XOR, x.nodeCount() - 1, i / 2));
        }
        s.append(" mark ").append(x.markOutput(x.nodeCount() - 1));
        s.append(" seal ").append(x.seal());
        for (int i = 0; i <= 2 * PodemTestGen.MAX_NODES; i++) {
            s.append(" next ").append(x.nextTest());
        }
        return s.append(' ').append(Picture.of(x)).toString();
    }
}
