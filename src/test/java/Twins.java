import java.util.function.Supplier;
import java.util.function.ToLongFunction;

/** Two objects made alike: one gets a call that is refused, then both must be alike in all that can be asked. */
final class Twins {
    private static final int NONE = SignSquares.NONE;
    private final Told told;
    private final Supplier<SignSquares> made;
    private final String untouched;

    Twins(Told told, Supplier<SignSquares> made) {
        this.told = told;
        this.made = made;
        this.untouched = state(made.get());
    }

    void dueRefused(String what, ToLongFunction<SignSquares> call, long want) {
        SignSquares x = made.get();
        told.due(what, call.applyAsLong(x), want);
        told.due(what + ": all is as it was", state(x), untouched);
    }

    /** The call is a good one, but it only asks: nothing may change either. */
    void dueAnswer(String what, ToLongFunction<SignSquares> call, long want) {
        dueRefused(what, call, want);
    }

    /** Numbers that are too small or too great where 0 .. n - 1 are due. */
    static int[] beyond(int n) {
        return new int[] {-1, -2, n, n + 1, 1000, Integer.MAX_VALUE, Integer.MIN_VALUE};
    }

    /** All that stands, all that undoing brings back, and last what the tape tells. */
    static String state(SignSquares x) {
        StringBuilder s = new StringBuilder();
        for (int what = 0; what <= 8; what++) {
            s.append(x.count(what)).append(' ');
        }
        s.append(Told.spelled(x, NONE, NONE));
        int left = x.undo();
        for (int n = 0; n < 13 && left != NONE; n++) {
            s.append(" / ").append(left).append(glance(x));
            left = x.undo();
        }
        return s.append(" | ").append(x.text()).append(glance(x)).toString();
    }

    /** A few of the text's signs only, since what an object answers beyond 512 calls is free. */
    private static String glance(SignSquares x) {
        int n = x.spell(NONE, NONE, NONE);
        StringBuilder s = new StringBuilder(" ").append(n).append(' ');
        for (int k = 1; k <= 12; k++) {
            s.append((char) x.spell(NONE, NONE, n * k / 13));
        }
        return s.append(' ').append(x.count(4)).append(' ').append(x.count(5)).toString();
    }
}
