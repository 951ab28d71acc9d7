import java.util.function.Supplier;
import java.util.function.ToIntFunction;

/** Two objects that were made alike, of which one is asked something that changes nothing. */
final class Twins {
    private Twins() {
    }

    /** A call that is refused: it answers with an error, and changes nothing. */
    static void refused(Check check, Supplier<RingPuzzle> made, String call, ToIntFunction<RingPuzzle> asked, int error) {
        RingPuzzle x = made.get();
        check.due(call, asked.applyAsInt(x), error);
        alike(check, "behind " + call, x, made.get());
    }

    /** Compares the objects, and the states of their histories to the end. */
    static void alike(Check check, String when, RingPuzzle x, RingPuzzle twin) {
        int left = twin.count(14);
        check.due("count(14) " + when, x.count(14), left);
        check.due("digest() " + when, x.digest(), twin.digest());
        check.due("fault() " + when, x.fault(), twin.fault());
        for (int undone = 0; undone <= left; undone++) {
            check.due("undo() " + when, x.undo(), twin.undo());
            check.due("digest() behind undo() " + when, x.digest(), twin.digest());
        }
    }
}
