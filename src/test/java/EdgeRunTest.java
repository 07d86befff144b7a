import java.util.Random;

/** Sentences of the document that name an edge: promises 9 to 14, and the Terms on BOUNDS, MOMENTS and PROMISES. */
public final class EdgeRunTest {
    private static final int MAX = Integer.MAX_VALUE;

    private final Due due = new Due();
    private final Refused refused = new Refused(due);

    public static void main(String[] args) {
        EdgeRunTest t = new EdgeRunTest();
        t.start();
        t.setsOfClocks();
        t.numbersOfMoments();
        t.inputsThatTick();
        t.bitsOfNoInput();
        t.bitsOfNoKeeper();
        t.mostEithers();
        t.oneWayOfAll();
        t.manyWays();
        t.ownClockHasItsOldValue();
        t.changingOrNot();
        t.plainOfASourceAhead();
        t.boundIsReached();
        t.boundIsLeftBehind();
        t.boundRefused();
        t.boundsOfAllClocks();
        t.noBound();
        t.longestRun();
        t.value();
        t.either();
        t.ticks();
        t.brokenNumbers();
        t.brokenLast();
        t.promisesHold();
        t.oneAtMost();
        t.oneAtTheEdges();
        t.due.end();
    }

    /** Promise 9: "THE RUN is at the beginning: how many MOMENTS it had." */
    private void start() {
        due.is("start() of none", new ClockCourt().start(), 0);
        ClockCourt x = Built.full();
        due.is("start() of 60", x.start(), 60);
        due.is("start() again", x.start(), 0);
        due.is("a value at first", x.value(1), 1);
        due.is("either(0)", x.either(0), -1);
        due.is("ticks(0, 1)", x.ticks(0, 1), 0);
        due.is("a moment comes again", x.moment(1, 0, 0), 0);
        due.is("start() of one", x.start(), 1);
    }

    /** Promise 10: "-1: CLOCKS not 1 .. 15". Terms: "some CLOCKS tick (a set, not empty)". */
    private void setsOfClocks() {
        for (int set = 1; set <= 15; set++) {
            ClockCourt x = new ClockCourt();
            for (int clock = 0; clock < 4; clock++) {
                x.input(clock);
            }
            due.is("moment(" + set + ", 15, 0)", x.moment(set, 15, 0), 0);
            for (int clock = 0; clock < 4; clock++) {
                due.is("clock " + clock + " of " + set, x.value(clock), set >> clock & 1);
            }
        }
        due.is("a set without cells", new ClockCourt().moment(15, 0, 0), 0);
        refused.outside("moment(#, 0, 0)", 1, 15, (x, n) -> x.moment(n, 0, 0), -1);
    }

    /** Promise 10: "another number below 0": 0 and the largest are taken. */
    private void numbersOfMoments() {
        due.is("moment(2, 0, 0)", Built.busy().moment(2, 0, 0), 0);
        due.is("moment(2, MAX, MAX)", Built.busy().moment(2, MAX, MAX), 0);
        for (int below : new int[] {-1, -2, Integer.MIN_VALUE, Integer.MIN_VALUE + 1}) {
            refused.is("moment(2, " + below + ", 0)", x -> x.moment(2, below, 0), -1);
            refused.is("moment(2, 0, " + below + ")", x -> x.moment(2, 0, below), -1);
            refused.is("moment(2, " + below + ", " + below + ")", x -> x.moment(2, below, below), -1);
        }
    }

    /** Terms: "the values of the INPUTS that tick (bit i: the i-th of these, by CELLS)": ten of them, and three. */
    private void inputsThatTick() {
        ClockCourt x = new ClockCourt();
        for (int i = 0; i < 10; i++) {
            x.input(0);
        }
        for (int i = 0; i < 10; i++) {
            x.moment(1, 1 << i, 0);
            for (int cell = 0; cell < 10; cell++) {
                due.is("bit " + i + ": value(" + cell + ")", x.value(cell), cell == i ? 1 : 0);
            }
        }
        ClockCourt y = new ClockCourt();
        for (int i = 0; i < 6; i++) {
            y.input(i % 2);
        }
        y.moment(2, 4, 0);
        for (int cell = 0; cell < 6; cell++) {
            due.is("the third of clock 1: value(" + cell + ")", y.value(cell), cell == 5 ? 1 : 0);
        }
        y.moment(1, 6, 0);
        for (int cell = 0; cell < 6; cell++) {
            due.is("two of clock 0: value(" + cell + ")", y.value(cell), cell == 2 || cell >= 4 ? 1 : 0);
        }
    }

    /** Terms: "Bits of no INPUT, KEEPER are not looked at.": of the inputs. */
    private void bitsOfNoInput() {
        ClockCourt x = new ClockCourt();
        for (int i = 0; i < 10; i++) {
            x.input(0);
        }
        due.is("moment(1, MAX, 0)", x.moment(1, MAX, 0), 0);
        for (int cell = 0; cell < 10; cell++) {
            due.is("all ten: value(" + cell + ")", x.value(cell), 1);
        }
        due.is("moment(1, MAX - 1023, 0)", x.moment(1, MAX - 1023, 0), 0);
        for (int cell = 0; cell < 10; cell++) {
            due.is("none of ten: value(" + cell + ")", x.value(cell), 0);
        }
        due.is("moment(2, MAX, 0)", x.moment(2, MAX, 0), 0);
        due.is("no input ticks", x.value(0), 0);
    }

    /** Terms: "Bits of no INPUT, KEEPER are not looked at.": of the keepers, where none or one is EITHER. */
    private void bitsOfNoKeeper() {
        ClockCourt x = new ClockCourt();
        x.input(0);
        x.keeper(1, 0);
        x.keeper(1, 1);
        x.connect(1, 0);
        due.is("nothing changes", x.moment(3, 0, MAX), 0);
        due.is("value(1)", x.value(1), 0);
        due.is("value(2)", x.value(2), 1);
        due.is("keeper 1 is EITHER", x.moment(3, 1, MAX - 1), 1);
        due.is("value(1) PLAIN", x.value(1), 0);
        due.is("value(2), which is not", x.value(2), 1);
        due.is("keeper 1 is EITHER again", x.moment(3, 0, MAX), 1);
        due.is("value(1) the other one", x.value(1), 0);
        due.is("value(2), which is not", x.value(2), 1);
    }

    /**
     * Terms: "which of the KEEPERS that are EITHER become the other value (bit i: the i-th of these, by CELLS)": nine,
     * the most that can be. Promise 12: "KEEPER i, from 0, of those that were EITHER in its latest MOMENT."
     */
    private void mostEithers() {
        ClockCourt x = new ClockCourt();
        x.input(0);
        for (int i = 1; i < 10; i++) {
            x.keeper(1 + i % 3, 0);
            x.connect(i, 0);
        }
        for (int i = 0; i < 9; i++) {
            int want = i % 2;
            due.is("nine of them", x.moment(15, 1 - want, 1 << i), 9);
            for (int k = 0; k < 9; k++) {
                due.is("either(" + k + ")", x.either(k), k + 1);
                due.is("value(" + (k + 1) + ")", x.value(k + 1), k == i ? 1 - want : want);
            }
            due.is("either(9)", x.either(9), -1);
        }
        due.is("all become the other value", x.moment(15, 0, MAX), 9);
        due.is("value(9), PLAIN 1", x.value(9), 0);
        due.is("clocks 0 and 1 alone", x.moment(3, 1, 4), 3);
        due.is("either(2) of three", x.either(2), 9);
        due.is("either(3) of three", x.either(3), -1);
        due.is("value(9), PLAIN 0", x.value(9), 1);
        due.is("value(3), PLAIN 0", x.value(3), 0);
    }

    /** Terms: "in all ways": of 512 ways of nine changing bits only one has the other value. */
    private void oneWayOfAll() {
        for (int left = 0; left <= 9; left++) {
            ClockCourt x = new ClockCourt();
            x.keeper(1, 0);
            for (int i = 1; i < 10; i++) {
                x.input(2 * (i % 2));
            }
            int and = 1;
            for (int i = 2; i < 10; i++) {
                and = x.gate(0, and, i, 0);
            }
            x.connect(0, and);
            // The inputs stand 1 .. 9 by cells in the number; one of them stays 0, or none.
            int all = left == 0 ? 511 : 511 & ~(1 << left - 1);
            due.is("input " + left + " stays", x.moment(7, all, 1), left == 0 ? 1 : 0);
            due.is("value(0)", x.value(0), left == 0 ? 1 : 0);
            due.is("nothing changes any more", x.moment(7, all, 1), 0);
            due.is("all of them go", x.moment(7, 0, 1), left == 0 ? 1 : 0);
            due.is("value(0) behind", x.value(0), 0);
        }
    }

    /**
     * Terms: "if its SOURCE has both values when each CHANGING BIT of another CLOCK than its own has its old, or its
     * new (PLAIN, or chosen) value, in all ways": the source is 1 (or 0) for one number of nine inputs alone, so it has
     * both values where those inputs that don't change have their digits of that number.
     */
    private void manyWays() {
        for (int number = 0; number < 512; number++) {
            if (Integer.bitCount(number) >= 4) {
                manyWays(number, number % 2, number % 10);
            }
        }
    }

    private void manyWays(int number, int value, int keeper) {
        ClockCourt x = new ClockCourt();
        for (int i = 0; i < 10; i++) {
            due.is("ten bits", i == keeper ? x.keeper(1, 1 - value) : x.input(0), i);
        }
        int and = -1;
        for (int i = 0; i < 9; i++) {
            int input = i < keeper ? i : i + 1;
            int digit = (number >> i & 1) == 1 ? input : x.gate(3, input, 0, 0);
            and = and < 0 ? digit : x.gate(0, and, digit, 0);
        }
        x.connect(keeper, value == 1 ? and : x.gate(3, and, 0, 0));
        Random random = new Random(number);
        int old = 0;
        for (int m = 0; m < 60; m++) {
            // Near to the number, so that it comes often; each digit changes in some moments and stays in others.
            int now = number ^ random.nextInt(512) & random.nextInt(512);
            boolean either = now != old && ((old ^ number) & ~(old ^ now)) == 0;
            String name = number + ": from " + old + " to " + now;
            due.is(name, x.moment(3, now, 0), either ? 1 : 0);
            due.is(name + ": either(0)", x.either(0), either ? keeper : -1);
            due.is(name + ": PLAIN", x.value(keeper), old == number ? value : 1 - value);
            old = now;
        }
    }

    /** Terms: "each CHANGING BIT of another CLOCK than its own [..], and all other BITS have their old one". */
    private void ownClockHasItsOldValue() {
        ClockCourt x = new ClockCourt();
        x.input(0);
        x.input(1);
        x.gate(0, 0, 1, 0);
        x.keeper(1, 0);
        x.connect(3, 2);
        due.is("both come: its own clock's one was 0", x.moment(3, 3, 1), 0);
        due.is("value(3)", x.value(3), 0);
        due.is("both go: its own clock's one was 1", x.moment(3, 0, 1), 1);
        due.is("value(3), PLAIN 1", x.value(3), 0);
        due.is("a bit of a clock that doesn't tick", x.moment(2, 1, 1), 0);
        due.is("value(3), the source was 0", x.value(3), 0);
    }

    /**
     * Terms: "CHANGING are BITS of CLOCKS that tick: INPUTS that become another value, KEEPERS whose PLAIN value is
     * another than theirs.": a keeper that stays by its PLAIN value is not, though it becomes the other one.
     */
    private void changingOrNot() {
        ClockCourt x = new ClockCourt();
        x.input(0);
        x.keeper(1, 0);
        x.connect(1, 0);
        x.keeper(2, 0);
        x.connect(2, 1);
        due.is("1 is EITHER, PLAIN 0 as it was", x.moment(7, 1, 1), 1);
        due.is("either(0)", x.either(0), 1);
        due.is("value(1) became another", x.value(1), 1);
        due.is("1 is EITHER, PLAIN 1 as it was", x.moment(7, 0, 0), 1);
        due.is("value(2) PLAIN", x.value(2), 1);
        due.is("1 changes by its PLAIN value", x.moment(7, 0, 0), 1);
        due.is("either(0) is now 2", x.either(0), 2);
        due.is("an input becomes what it was", x.moment(7, 0, 1), 0);
    }

    /** Terms: "PLAIN it becomes what its SOURCE was ahead of the MOMENT." */
    private void plainOfASourceAhead() {
        ClockCourt x = new ClockCourt();
        x.keeper(0, 1);
        for (int i = 1; i < 10; i++) {
            x.keeper(0, 0);
            x.connect(i, i - 1);
        }
        x.connect(0, 9);
        for (int m = 1; m <= 20; m++) {
            due.is("moment " + m + " of a ring", x.moment(1, 0, MAX), 0);
            for (int cell = 0; cell < 10; cell++) {
                due.is("value(" + cell + ") behind " + m, x.value(cell), cell == m % 10 ? 1 : 0);
            }
        }
    }

    /**
     * Terms: "of c at most n ticks may come behind a MOMENT in which d ticked (or the beginning), ahead of the next
     * one in which it does."; "the ticks of c since the latest MOMENT in which d ticked (not of that MOMENT itself)
     * are n at most". Promise 10: "-2: a BOUND would be broken". All clocks, all numbers, on both sides.
     */
    private void boundIsReached() {
        for (int pair = 0; pair < 16; pair++) {
            for (int n = 1; n <= 9 && pair % 5 != 0; n++) {
                boundIsReached(pair / 4, pair % 4, n);
            }
        }
    }

    private void boundIsReached(int c, int d, int n) {
        ClockCourt x = new ClockCourt();
        String name = "bound(" + c + ", " + d + ", " + n + "): ";
        x.bound(c, d, n);
        ticksUpTo(name + "from the beginning, ", x, c, d, n);
        due.is(name + "clocks that are neither", x.moment(15 & ~(1 << c | 1 << d), 0, 0), 0);
        due.is(name + "with all but d", x.moment(15 & ~(1 << d), 0, 0), -2);
        due.is(name + "together with d", x.moment(1 << c | 1 << d, 0, 0), 0);
        due.is(name + "its own tick isn't counted", x.ticks(c, d), 0);
        ticksUpTo(name + "behind both, ", x, c, d, n);
        due.is(name + "d alone", x.moment(1 << d, 0, 0), 0);
        due.is(name + "ticks behind d", x.ticks(c, d), 0);
        ticksUpTo(name + "behind d, ", x, c, d, n);
        due.is(name + "all clocks", x.moment(15, 0, 0), 0);
        due.is(name + "ticks behind all", x.ticks(c, d), 0);
        due.is(name + "the other way there is none", x.ticks(d, c), 0);
    }

    private void ticksUpTo(String name, ClockCourt x, int c, int d, int n) {
        for (int tick = 1; tick <= n; tick++) {
            due.is(name + "tick " + tick, x.moment(1 << c, 0, 0), 0);
            due.is(name + "ticks behind " + tick, x.ticks(c, d), tick);
        }
        due.is(name + "one tick more", x.moment(1 << c, 0, 0), -2);
        due.is(name + "ticks behind a refused one", x.ticks(c, d), n);
    }

    /** Promise 6: "n, or 0 for none"; Terms: "What changes THE NET or BOUNDS sets THE RUN to the beginning". */
    private void boundIsLeftBehind() {
        ClockCourt x = new ClockCourt();
        x.bound(0, 1, 1);
        x.bound(0, 2, 2);
        x.moment(1, 0, 0);
        due.is("the smaller one", x.moment(1, 0, 0), -2);
        due.is("is taken away", x.bound(0, 1, 0), 1);
        due.is("from the beginning", x.ticks(0, 2), 0);
        due.is("one tick", x.moment(1, 0, 0), 0);
        due.is("two ticks", x.moment(1, 0, 0), 0);
        due.is("ticks(0, 1) without one", x.ticks(0, 1), 0);
        due.is("ticks(0, 2)", x.ticks(0, 2), 2);
        due.is("the larger one", x.moment(1, 0, 0), -2);
        due.is("is broken though 1 ticks", x.moment(3, 0, 0), -2);
        due.is("is not if 2 ticks", x.moment(5, 0, 0), 0);
    }

    /**
     * Promise 10: "-2: a BOUND would be broken"; Terms: "-1 no such thing, a number out of range, or not as told; -2,
     * -3": which one comes first.
     */
    private void boundRefused() {
        refused.is("moment(1, 0, 0)", x -> x.moment(1, 0, 0), -2);
        refused.is("moment(13, MAX, MAX)", x -> x.moment(13, MAX, MAX), -2);
        refused.is("moment(1, -1, 0)", x -> x.moment(1, -1, 0), -1);
        refused.is("moment(1, 0, -1)", x -> x.moment(1, 0, -1), -1);
        refused.is("moment(17, 0, 0)", x -> x.moment(17, 0, 0), -1);
    }

    /** Terms: "for each c, d": twelve bounds at once, each of 1. */
    private void boundsOfAllClocks() {
        ClockCourt x = new ClockCourt();
        for (int pair = 0; pair < 16; pair++) {
            x.bound(pair / 4, pair % 4, 1);
        }
        for (int clock = 0; clock < 4; clock++) {
            due.is("clock " + clock + " in its turn", x.moment(1 << clock, 0, 0), 0);
            due.is("clock " + clock + " again", x.moment(1 << clock, 0, 0), -2);
        }
        for (int pair = 0; pair < 16; pair++) {
            int c = pair / 4;
            int d = pair % 4;
            due.is("ticks(" + c + ", " + d + ")", x.ticks(c, d), c == d ? -1 : c > d ? 1 : 0);
        }
        due.is("clock 1 is not in its turn", x.moment(2, 0, 0), -2);
        due.is("clocks 0 and 1, which have not come since 2 and 3", x.moment(3, 0, 0), 0);
        due.is("clocks 0 and 1 again, with 3", x.moment(11, 0, 0), -2);
        due.is("clocks 2 and 3", x.moment(12, 0, 0), 0);
        due.is("all of them", x.moment(15, 0, 0), 0);
        for (int pair = 0; pair < 16; pair++) {
            due.is("ticks behind all of them", x.ticks(pair / 4, pair % 4), pair % 5 == 0 ? -1 : 0);
        }
    }

    /** Promise 13: "0 without one." Terms: "or none (at first)": as many ticks as the run has moments. */
    private void noBound() {
        ClockCourt x = new ClockCourt();
        x.input(0);
        x.bound(1, 0, 1);
        for (int m = 0; m < 60; m++) {
            due.is("moment " + m + " of clock 0 alone", x.moment(1, 0, 0), 0);
        }
        due.is("ticks(0, 1)", x.ticks(0, 1), 0);
        due.is("ticks(1, 0)", x.ticks(1, 0), 0);
    }

    /** Promise 10: "-3: it had 60."; Terms: "-2, -3, -11 to -15 as told": which one comes first. */
    private void longestRun() {
        ClockCourt x = new ClockCourt();
        x.input(0);
        for (int m = 1; m <= 60; m++) {
            due.is("moment " + m, x.moment(1, m, 0), 0);
            due.is("count(4)", x.count(4), m);
        }
        due.is("moment 61", x.moment(1, 1, 0), -3);
        refused.isOfFull("moment(2, 0, 0)", y -> y.moment(2, 0, 0), -3);
        refused.isOfFull("moment(15, MAX, MAX)", y -> y.moment(15, MAX, MAX), -3);
        refused.isOfFull("moment(1, 0, 0): a bound too", y -> y.moment(1, 0, 0), -2);
        refused.isOfFull("moment(0, 0, 0)", y -> y.moment(0, 0, 0), -1);
        refused.isOfFull("moment(2, -1, 0)", y -> y.moment(2, -1, 0), -1);
        refused.isOfFull("moment(1, 0, -1): a bound too", y -> y.moment(1, 0, -1), -1);
    }

    /** Promise 11: "The value of a CELL in THE RUN. -1." */
    private void value() {
        ClockCourt x = Built.full();
        due.is("value(0)", x.value(0), 1);
        due.is("value(22) and value(23)", x.value(22) + x.value(23), 1);
        refused.outside("value(#)", 0, 6, (y, n) -> y.value(n), -1);
        refused.isOfFull("value(24)", y -> y.value(24), -1);
        refused.isOfFull("value(-1)", y -> y.value(-1), -1);
    }

    /** Promise 12: "-1: there is none such." */
    private void either() {
        refused.outside("either(#)", 0, 0, (x, n) -> x.either(n), -1);
        ClockCourt x = Built.busy();
        due.is("either(0)", x.either(0), 3);
        due.is("a moment in which none was", x.moment(2, 0, 0), 0);
        due.is("either(0) behind it", x.either(0), -1);
        ClockCourt y = Built.busy();
        due.is("a refused moment", y.moment(1, 0, 0), -2);
        due.is("either(0) of the latest that was", y.either(0), 3);
        due.is("start()", y.start(), 5);
        due.is("either(0) at the beginning", y.either(0), -1);
        ClockCourt z = Built.busy();
        due.is("follow(0)", z.follow(0), 0);
        due.is("either(0) behind follow(0)", z.either(0), -1);
        for (int n : Refused.beyond(0, 0)) {
            due.is("either(" + n + ") where none was", z.either(n), -1);
        }
    }

    /** Promise 13: "The ticks of c that the BOUND on c, d looks at; 0 without one. -1: CLOCKS, or c is d." */
    private void ticks() {
        for (int clock = 0; clock < 4; clock++) {
            int c = clock;
            refused.is("ticks(c, c)", x -> x.ticks(c, c), -1);
            refused.outside("ticks(#, " + c + ")", 0, 3, (x, n) -> x.ticks(n, c), -1);
            refused.outside("ticks(" + c + ", #)", 0, 3, (x, n) -> x.ticks(c, n), -1);
        }
        for (int n : Refused.beyond(0, 3)) {
            due.is("ticks(n, n)", Built.busy().ticks(n, n), -1);
        }
        ClockCourt x = Built.busy();
        due.is("ticks(0, 1)", x.ticks(0, 1), 2);
        due.is("ticks(3, 2)", x.ticks(3, 2), 0);
        due.is("ticks(0, 3) without a bound", x.ticks(0, 3), 0);
    }

    /** Promise 14: "The first MOMENT of THE RUN (from 1; 0: the beginning) by which a PROMISE was broken; [..] -1." */
    private void brokenNumbers() {
        ClockCourt x = Built.busy();
        due.is("broken(0): at the beginning", x.broken(0), 0);
        due.is("broken(1): by the first moment", x.broken(1), 1);
        due.is("broken(2): by the second, two bits", x.broken(2), 2);
        due.is("broken(3): not", x.broken(3), -2);
        refused.outside("broken(#)", 0, 3, (y, n) -> y.broken(n), -1);
        refused.isOfFull("broken(8)", y -> y.broken(8), -1);
    }

    /** Promise 14: "-2: none": up to the last moment that a run can have. */
    private void brokenLast() {
        ClockCourt x = new ClockCourt();
        x.input(0);
        x.gate(3, 0, 0, 0);
        x.promise(0, 1, 0);
        for (int m = 1; m < 60; m++) {
            x.moment(1, 0, 0);
        }
        due.is("not by 59", x.broken(0), -2);
        x.moment(1, 1, 0);
        due.is("by the 60th", x.broken(0), 60);
        due.is("a refused one", x.moment(1, 0, 0), -3);
        due.is("by the 60th still", x.broken(0), 60);
        due.is("start()", x.start(), 60);
        due.is("not any more", x.broken(0), -2);
        due.is("a promise that comes later", x.promise(0, 0, 0), 1);
        due.is("is broken at the beginning", x.broken(1), 0);
    }

    /**
     * Terms: "0 ALWAYS x: CELL x is 1. 1 NEVER BOTH x y. 2 AS x y: both have one value."; "A PROMISE is broken at the
     * beginning, or by a MOMENT, if it doesn't hold then.": of two bits all values, and one cell twice.
     */
    private void promisesHold() {
        for (int values = 0; values < 4; values++) {
            ClockCourt x = new ClockCourt();
            int a = values & 1;
            int b = values >> 1;
            x.keeper(0, a);
            x.keeper(0, b);
            x.promise(0, 0, 0);
            x.promise(1, 0, 1);
            x.promise(2, 0, 1);
            x.promise(1, 0, 0);
            x.promise(2, 0, 0);
            due.is("ALWAYS " + a, x.broken(0), a == 1 ? -2 : 0);
            due.is("NEVER BOTH " + a + " " + b, x.broken(1), a == 1 && b == 1 ? 0 : -2);
            due.is("AS " + a + " " + b, x.broken(2), a == b ? -2 : 0);
            due.is("NEVER BOTH of " + a + " and itself", x.broken(3), a == 1 ? 0 : -2);
            due.is("AS of " + a + " and itself", x.broken(4), -2);
        }
    }

    /**
     * Terms: "3 ONE x y: of the BITS from CELL x to CELL y at most one is another than ahead of the MOMENT (at the
     * beginning: it is kept)": ten bits, of which none, one, two, all are others; values at first don't matter.
     */
    private void oneAtMost() {
        ClockCourt x = new ClockCourt();
        for (int i = 0; i < 10; i++) {
            x.input(0);
        }
        x.promise(3, 0, 9);
        due.is("kept at the beginning", x.broken(0), -2);
        x.moment(1, 0, 0);
        due.is("none is another", x.broken(0), -2);
        for (int i = 0; i < 10; i++) {
            x.moment(1, (2 << i) - 1, 0);
            due.is("one is another: " + i, x.broken(0), -2);
        }
        x.moment(1, 1023, 0);
        due.is("none is another again", x.broken(0), -2);
        x.moment(1, 1022 - 512, 0);
        due.is("the first and the last are others", x.broken(0), 13);
        x.start();
        x.moment(1, 1023, 0);
        due.is("all are others", x.broken(0), 1);
        ClockCourt y = new ClockCourt();
        y.keeper(0, 1);
        y.keeper(0, 1);
        y.promise(3, 0, 1);
        due.is("two that are 1 at first", y.broken(0), -2);
        y.moment(1, 0, 0);
        due.is("and stay", y.broken(0), -2);
    }

    /** Terms: "of the BITS from CELL x to CELL y": both of them too; no others, and no gates. */
    private void oneAtTheEdges() {
        ClockCourt x = new ClockCourt();
        x.gate(3, x.input(0), 0, 0);
        x.gate(3, x.input(0), 0, 0);
        x.gate(3, x.input(0), 0, 0);
        int[][] spans = {{0, 2}, {1, 2}, {0, 1}, {2, 4}, {3, 5}, {1, 1}, {2, 2}, {1, 3}};
        for (int[] span : spans) {
            x.promise(3, span[0], span[1]);
        }
        x.moment(1, 7, 0);
        long[] want = {1, -2, -2, 1, -2, -2, -2, -2};
        for (int p = 0; p < 8; p++) {
            due.is("ONE " + spans[p][0] + " " + spans[p][1], x.broken(p), want[p]);
        }
    }
}
