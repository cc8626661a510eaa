import java.util.function.Consumer;
import java.util.function.Supplier;

/**
 * "Changes nothing": an object that was called must tell and do afterwards what
 * its twin does that was not. Each view has two objects of its own, so that a
 * change that one question makes can't hide in the answer to another.
 */
final class Unchanged {
    private Unchanged() {
    }

    static void by(String calls, Supplier<PodemTestGen> made, Consumer<PodemTestGen> call) {
        for (Views.View view : Views.all()) {
            PodemTestGen called = made.get();
            call.accept(called);
            String after = view.of().apply(called);
            Check.due(view.name() + " after " + calls, after, view.of().apply(made.get()));
        }
    }
}
