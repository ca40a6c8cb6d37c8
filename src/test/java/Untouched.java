import java.util.ArrayList;
import java.util.List;
import java.util.function.Consumer;
import java.util.function.IntSupplier;
import java.util.function.Supplier;

/**
 * A refused call: the exception that is due, and that it has changed nothing. Two objects come
 * about by the same calls, one of them is asked what is refused, and both must go on alike: what
 * no call tells (a gang's count, the way gone, the patience left) shows itself only later.
 */
final class Untouched {
    private static final int[] HOURS_LATER = {0, 1, 2, 3, 5, 8, 9, 40, 500};
    private static final int MOST_CALLS = 512;
    private static final int MOST_CALLS_BEFORE = 100;

    private Untouched() {
    }

    static void byRange(String call, Supplier<CoalHulks> made, Consumer<CoalHulks> refused) {
        byException(call, IllegalArgumentException.class, made, refused);
    }

    static void byState(String call, Supplier<CoalHulks> made, Consumer<CoalHulks> refused) {
        byException(call, IllegalStateException.class, made, refused);
    }

    static void byNumber(String call, Supplier<CoalHulks> made, Consumer<CoalHulks> refused) {
        byException(call, IndexOutOfBoundsException.class, made, refused);
    }

    private static void byException(String call, Class<?> due, Supplier<CoalHulks> made, Consumer<CoalHulks> refused) {
        for (int later : HOURS_LATER) {
            CoalHulks asked = made.get();
            CoalHulks other = made.get();
            Checks.refused(call, due, () -> refused.accept(asked));
            Checks.refused(call + ", again", due, () -> refused.accept(asked));
            goOnAlike(call + ", then " + later + " hours", asked, other, later);
        }
    }

    /** The same for a call that answers, and by its answer alone. */
    static void byAnswer(String call, Supplier<CoalHulks> made, Consumer<CoalHulks> answered) {
        for (int later : HOURS_LATER) {
            CoalHulks asked = made.get();
            CoalHulks other = made.get();
            answered.accept(asked);
            goOnAlike(call + ", then " + later + " hours", asked, other, later);
        }
    }

    private static void goOnAlike(String call, CoalHulks asked, CoalHulks other, int later) {
        List<Integer> got = storyOf(asked, later);
        List<Integer> want = storyOf(other, later);
        Checks.due(call + ": answers", got.size(), want.size());
        for (int i = 0; i < Math.min(got.size(), want.size()); i++) {
            Checks.due(call + ": answer " + i, got.get(i), want.get(i));
        }
        Checks.due(call + ": within 512 calls", got.size() + MOST_CALLS_BEFORE <= MOST_CALLS ? 1 : 0, 1);
    }

    private static List<Integer> storyOf(CoalHulks x, int later) {
        List<Integer> told = new ArrayList<>();
        if (later > 0) {
            add(told, () -> x.hours(later));
        }
        tellAll(x, told);
        useAll(x, told);
        tellAll(x, told);
        return told;
    }

    private static void add(List<Integer> told, IntSupplier call) {
        told.add(Checks.answerOf(call));
    }

    private static void tellAll(CoalHulks x, List<Integer> told) {
        add(told, x::clock);
        add(told, x::delivered);
        for (int i = 0; i < 6; i++) {
            int number = i;
            add(told, () -> x.coalIn(number));
            add(told, () -> x.placeOf(number));
            add(told, () -> x.loadOf(number));
            add(told, () -> x.dustIn(number));
            add(told, () -> x.gangOn(number));
            add(told, () -> x.restOf(number));
        }
        for (int i = 0; i < 14; i++) {
            int number = i;
            add(told, () -> x.fateOf(number));
            add(told, () -> x.wantOf(number));
            add(told, () -> x.outside(number));
        }
    }

    /** Brings one of each and orders what can be ordered, so that all that is kept comes into play. */
    private static void useAll(CoalHulks x, List<Integer> told) {
        int last = 14;
        while (last > 0 && Checks.answerOf(fateOf(x, last)) == Checks.NUMBER) {
            last--;
        }
        int target = last;
        add(told, () -> x.hulk(900));
        add(told, () -> x.lighter(30));
        add(told, () -> x.gang(3));
        add(told, () -> x.steamer(70, 40));
        for (int i = 0; i < 6; i++) {
            int number = i;
            add(told, () -> voidCall(() -> x.order(number, number, target)));
            add(told, () -> voidCall(() -> x.order(number, 5 - number, target)));
        }
        add(told, () -> x.hours(1));
        add(told, () -> x.hours(8));
    }

    private static IntSupplier fateOf(CoalHulks x, int number) {
        return () -> x.fateOf(number);
    }

    private static int voidCall(Runnable call) {
        call.run();
        return 0;
    }
}
