import java.util.HashMap;
import java.util.List;
import java.util.Map;
import java.util.function.Supplier;
import java.util.function.ToLongFunction;

/**
 * Calls that are refused. Of each its answer is held, and the sentence of Terms "A refused call changes nothing": of
 * the object nothing else is seen than of one that is made the same way without that call.
 */
final class Refused {
    /** A call with one number of it left open. */
    interface OfNumber {
        long answer(ClockCourt x, int n);
    }

    private final Due due;
    private final Map<String, List<String>> clean = new HashMap<>();

    Refused(Due due) {
        this.due = due;
    }

    void is(String call, ToLongFunction<ClockCourt> made, long want) {
        is(call, "busy", Built::busy, made, want);
    }

    void isOfFull(String call, ToLongFunction<ClockCourt> made, long want) {
        is(call, "full", Built::full, made, want);
    }

    void isOfNew(String call, ToLongFunction<ClockCourt> made, long want) {
        is(call, "new", ClockCourt::new, made, want);
    }

    /** Objects of one name are made the same way. */
    void is(String call, String name, Supplier<ClockCourt> built, ToLongFunction<ClockCourt> made, long want) {
        ClockCourt x = built.get();
        due.is(name + ": " + call, made.applyAsLong(x), want);
        List<String> before = clean.computeIfAbsent(name, n -> Seen.of(built.get()));
        List<String> behind = Seen.of(x);
        due.is(name + ": asked within its calls", before.size() <= Seen.MOST_ANSWERS ? 1 : 0, 1);
        due.is(name + ": " + call + " changed " + firstChange(before, behind), before.equals(behind) ? 1 : 0, 1);
    }

    /** The numbers next to a range on both sides, and the farthest ones. */
    void outside(String call, int low, int high, OfNumber made, long want) {
        for (int n : beyond(low, high)) {
            is(call.replace("#", String.valueOf(n)), x -> made.answer(x, n), want);
        }
    }

    static int[] beyond(int low, int high) {
        return new int[] {
            Integer.MIN_VALUE, Integer.MIN_VALUE + 1, low - 2, low - 1,
            high + 1, high + 2, Integer.MAX_VALUE - 1, Integer.MAX_VALUE};
    }

    private static String firstChange(List<String> before, List<String> behind) {
        for (int i = 0; i < before.size() && i < behind.size(); i++) {
            if (!before.get(i).equals(behind.get(i))) {
                return before.get(i) + " to " + behind.get(i);
            }
        }
        return before.size() == behind.size() ? "nothing" : "how much is seen";
    }
}
