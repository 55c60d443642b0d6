import java.util.function.Supplier;
import java.util.function.ToLongFunction;

/**
 * Calls at the edge of what can be: those that are refused are counted by their reason and change nothing else; those
 * that only ask change nothing at all.
 */
final class Refusal {
    private final Due due;
    private final Supplier<MayGreen> start;

    /** Each call is made on an object of its own, that `start` makes alike each time. */
    Refusal(Due due, Supplier<MayGreen> start) {
        this.due = due;
        this.start = start;
    }

    void refused(String what, ToLongFunction<MayGreen> call, long answer, int reason) {
        MayGreen called = start.get();
        counted(what, called, call, answer, reason);
        changesNothing(what, called);
    }

    /** The call asks, whatever it answers: none is counted as REFUSED. */
    void asked(String what, ToLongFunction<MayGreen> call) {
        MayGreen called = start.get();
        long answer = call.applyAsLong(start.get());
        counted(what, called, call, answer, MayGreen.NONE);
        due.is(what + ", asked again", call.applyAsLong(called), answer);
        changesNothing(what, called);
    }

    /** The call can be: it answers, and none is counted as REFUSED. */
    void taken(String what, ToLongFunction<MayGreen> call, long answer) {
        counted(what, start.get(), call, answer, MayGreen.NONE);
    }

    private void changesNothing(String what, MayGreen called) {
        MayGreen untouched = start.get();
        due.is(what + " changes nothing", Seen.of(called).equals(Seen.of(untouched)), true);
        due.is(what + " changes nothing hidden", Seen.goingOn(called).equals(Seen.goingOn(untouched)), true);
    }

    private void counted(String what, MayGreen green, ToLongFunction<MayGreen> call, long answer, int reason) {
        int[] before = {green.status(0), green.status(1), green.status(2)};
        due.is(what, call.applyAsLong(green), answer);
        for (int k = 0; k <= 2; k++) {
            due.is(what + ", REFUSED by " + k, green.status(k) - before[k], k == reason ? 1 : 0);
        }
    }

    /** A truth as a call's answer. */
    static long of(boolean truth) {
        return truth ? 1 : 0;
    }
}
