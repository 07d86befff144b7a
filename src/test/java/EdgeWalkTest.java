import java.util.function.ToLongFunction;

/** Sentences of the document that name an edge: promises 15 to 20, and the Terms on STATES and TO WALK. */
public final class EdgeWalkTest {
    private final Due due = new Due();
    private final Refused refused = new Refused(due);

    public static void main(String[] args) {
        EdgeWalkTest t = new EdgeWalkTest();
        t.noBits();
        t.smallest();
        t.setsAsNumbers();
        t.clocksThatNoBitHas();
        t.inputsAsNumbers();
        t.othersAsNumbers();
        t.ticksMakeStates();
        t.nothingCanFollow();
        t.exactly250States();
        t.oneStateMore();
        t.theMomentThatEndsIt();
        t.exactly20000Moments();
        t.oneMomentMore();
        t.walkedAgain();
        t.unwalked();
        t.states();
        t.shown();
        t.neverNumbers();
        t.neverAtTheBeginning();
        t.neverByAStateThatWasThere();
        t.neverUnwalked();
        t.follow();
        t.followTheLongest();
        t.fewest();
        t.fewestRefused();
        t.noWay();
        t.due.end();
    }

    /** Keepers of clock 0 that count up, in binary digits. */
    private static ClockCourt counter(int digits) {
        ClockCourt x = new ClockCourt();
        for (int i = 0; i < digits; i++) {
            x.keeper(0, 0);
        }
        x.connect(0, x.gate(3, 0, 0, 0));
        int carry = 0;
        for (int i = 1; i < digits; i++) {
            x.connect(i, x.gate(2, i, carry, 0));
            carry = i < digits - 1 ? x.gate(0, i, carry, 0) : carry;
        }
        return x;
    }

    private void stateIs(ClockCourt x, int k, long... want) {
        for (int what = 0; what < want.length; what++) {
            due.is("state(" + k + ", " + what + ")", x.state(k, what), want[what]);
        }
    }

    private void countsAre(String name, ClockCourt x, long states, long looked, long moments) {
        due.is(name + ": count(5)", x.count(5), states);
        due.is(name + ": count(6)", x.count(6), looked);
        due.is(name + ": count(7)", x.count(7), moments);
    }

    /** Promise 15: "-3: no BITS." */
    private void noBits() {
        refused.isOfNew("walk()", x -> x.walk(), -3);
        ClockCourt x = new ClockCourt();
        x.bound(0, 1, 1);
        x.moment(1, 0, 0);
        due.is("walk() of bounds alone", x.walk(), -3);
        due.is("the run stays", x.count(4), 1);
        countsAre("no bits", x, 0, 0, 0);
        due.is("one input", x.input(0), 0);
        due.is("walk() of one input: behind its only tick it is 0 or 1", x.walk(), 3);
    }

    /** Promise 15: "TO WALK: how many STATES there are". Terms: "STATES are numbered from 0, the beginning". */
    private void smallest() {
        for (int first = 0; first < 2; first++) {
            ClockCourt x = new ClockCourt();
            x.keeper(0, first);
            due.is("walk() of a keeper that stays", x.walk(), 1);
            countsAre("one state", x, 1, 1, 1);
            stateIs(x, 0, first, -2, 0, 0, 0, 0, 1);
            due.is("shown(0, 0)", x.shown(0, 0), first);
            due.is("shown(1, 0)", x.shown(1, 0), -1);
            due.is("follow(0)", x.follow(0), 0);
            due.is("fewest(0)", x.fewest(0), 0);
        }
    }

    /** Terms: "by sets of CLOCKS as numbers (1 .. 15": each clock's keeper turns over, so each set brings its own. */
    private void setsAsNumbers() {
        ClockCourt x = new ClockCourt();
        for (int clock = 0; clock < 4; clock++) {
            x.keeper(clock, 0);
        }
        for (int clock = 0; clock < 4; clock++) {
            x.connect(clock, x.gate(3, clock, 0, 0));
        }
        due.is("walk()", x.walk(), 16);
        countsAre("four clocks", x, 16, 16, 16 * 15);
        stateIs(x, 0, 0, -2, 0, 0, 0, 0, 15);
        for (int k = 1; k < 16; k++) {
            stateIs(x, k, k, 0, k, 0, 0, 1, 15);
        }
        due.is("state(16, 0)", x.state(16, 0), -1);
    }

    /** Terms: "(1 .. 15; without CLOCKS that no BIT has)": a bound on one that has none doesn't bring it either. */
    private void clocksThatNoBitHas() {
        for (int used = 1; used < 16; used++) {
            ClockCourt x = new ClockCourt();
            for (int clock = 0; clock < 4; clock++) {
                if ((used >> clock & 1) == 1) {
                    x.input(clock);
                }
            }
            int n = Integer.bitCount(used);
            due.is("walk() of clocks " + used, x.walk(), 1 << n);
            int each = (int) Math.pow(3, n) - 1;
            countsAre("clocks " + used, x, 1 << n, 1 << n, (1 << n) * each);
            due.is("the first set", x.state(1, 2), Integer.lowestOneBit(used));
        }
        ClockCourt y = new ClockCourt();
        y.keeper(3, 0);
        y.bound(0, 1, 1);
        y.bound(0, 3, 1);
        due.is("walk() of clock 3 alone", y.walk(), 1);
        countsAre("clock 3 alone", y, 1, 1, 1);
    }

    /** Terms: "then values of INPUTS as numbers": bit i is the i-th input that ticks, by cells. */
    private void inputsAsNumbers() {
        ClockCourt x = new ClockCourt();
        x.input(2);
        x.keeper(1, 0);
        x.input(2);
        due.is("walk()", x.walk(), 4);
        long[][] want = {{0, -2, 0, 0, 0}, {1, 0, 4, 1, 0}, {4, 0, 4, 2, 0}, {5, 0, 4, 3, 0}};
        for (int k = 0; k < 4; k++) {
            stateIs(x, k, want[k]);
        }
        // The sets are {1}, {2}, {1, 2}: one, four and four moments.
        countsAre("inputs", x, 4, 4, 4 * 9);
        ClockCourt y = new ClockCourt();
        for (int i = 0; i < 7; i++) {
            y.input(3);
        }
        due.is("walk() of seven inputs", y.walk(), 128);
        for (int k = 1; k < 128; k++) {
            due.is("state(" + k + ", 0)", y.state(k, 0), k);
            due.is("state(" + k + ", 3)", y.state(k, 3), k);
        }
    }

    /** An input of clock 0, and six keepers of clock 1 that sample it. */
    private static ClockCourt sixSamplers() {
        ClockCourt x = new ClockCourt();
        x.input(0);
        for (int i = 1; i <= 6; i++) {
            x.keeper(1, 0);
            x.connect(i, 0);
        }
        return x;
    }

    /** Terms: "then KEEPERS that become the other value as numbers". */
    private void othersAsNumbers() {
        ClockCourt x = sixSamplers();
        due.is("walk()", x.walk(), 128);
        // Of each state: two moments of clock 0, one of clock 1, and of both one where the input stays, else 64.
        countsAre("six samplers", x, 128, 128, 128 * 68);
        stateIs(x, 1, 1, 0, 1, 1, 0, 1, 68);
        for (int k = 2; k <= 64; k++) {
            stateIs(x, k, 1 | k - 1 << 1, 0, 3, 1, k - 1);
        }
    }

    /** Terms: "A STATE: values of all BITS, and the ticks that BOUNDS look at." */
    private void ticksMakeStates() {
        for (int n = 1; n <= 9; n++) {
            ClockCourt x = new ClockCourt();
            x.keeper(0, 1);
            x.keeper(1, 0);
            due.is("without a bound", x.walk(), 1);
            x.bound(0, 1, n);
            due.is("with a bound of " + n, x.walk(), n + 1);
            countsAre("bound of " + n, x, n + 1, n + 1, 3 * n + 2);
            due.is("the last one can't have clock 0 alone", x.state(n, 6), 2);
            due.is("follow(" + n + ")", x.follow(n), n);
            due.is("ticks(0, 1)", x.ticks(0, 1), n);
            x.bound(0, 1, 0);
            due.is("the bound is taken away", x.walk(), 1);
        }
    }

    /** Promise 16: "6 how many can follow": none, where each moment would break a bound. */
    private void nothingCanFollow() {
        ClockCourt x = new ClockCourt();
        x.keeper(0, 0);
        x.bound(0, 3, 1);
        due.is("walk()", x.walk(), 2);
        countsAre("one tick and no more", x, 2, 2, 1);
        stateIs(x, 0, 0, -2, 0, 0, 0, 0, 1);
        stateIs(x, 1, 0, 0, 1, 0, 0, 1, 0);
        due.is("follow(1)", x.follow(1), 1);
        due.is("moment(1, 0, 0)", x.moment(1, 0, 0), -2);
        due.is("fewest(1)", x.fewest(1), 0);
    }

    /** Keepers of clocks 0, 1, 2 that stay; clock 3, which would set the bounds back, has no bit: it never ticks. */
    private static ClockCourt ticking(int a, int b, int c) {
        ClockCourt x = new ClockCourt();
        for (int clock = 0; clock < 3; clock++) {
            x.keeper(clock, 0);
        }
        x.bound(0, 3, a);
        x.bound(1, 3, b);
        x.bound(2, 3, c);
        return x;
    }

    /** Terms: "250 STATES and 20000 MOMENTS at most: where one more would come the walk ends": 250 are taken. */
    private void exactly250States() {
        ClockCourt x = ticking(9, 4, 4);
        due.is("walk() of 10 * 5 * 5", x.walk(), 250);
        // A clock that has ticked t of n times can tick or not, but for n of n: 19 * 9 * 9, without the empty sets.
        countsAre("10 * 5 * 5", x, 250, 250, 19 * 9 * 9 - 250);
        int ends = 0;
        for (int k = 0; k < 250; k++) {
            ends += x.state(k, 6) == 0 ? 1 : 0;
        }
        due.is("states that nothing can follow", ends, 1);
        due.is("state(250, 0)", x.state(250, 0), -1);
        due.is("fewest(249)", x.fewest(249), 0);
        due.is("follow(249)", x.follow(249), 9);
    }

    /** Terms: "where one more would come the walk ends, SPENT". Promise 15: "-2 less that: SPENT". */
    private void oneStateMore() {
        ClockCourt x = counter(8);
        due.is("walk() of 256", x.walk(), -252);
        countsAre("256", x, 250, 249, 249);
        stateIs(x, 248, 248, 247, 1, 0, 0, 248, 1);
        stateIs(x, 249, 249, 248, 1, 0, 0, 249, -2);
        due.is("state(250, 0)", x.state(250, 0), -1);
        due.is("fewest(249)", x.fewest(249), 0);
        ClockCourt y = ticking(9, 4, 5);
        due.is("walk() of 10 * 5 * 6", y.walk(), -252);
        due.is("count(5)", y.count(5), 250);
        ClockCourt z = counter(7);
        due.is("walk() of 128", z.walk(), 128);
        countsAre("128", z, 128, 128, 128);
    }

    /**
     * Promise 24: "7 MOMENTS of the walk (without the one by which it ended, SPENT)", "6 STATES that were LOOKED AT to
     * the last MOMENT". Terms: "250 STATES [..] at most": the moment that would bring one more breaks no promise.
     */
    private void theMomentThatEndsIt() {
        ClockCourt x = new ClockCourt();
        for (int i = 0; i < 10; i++) {
            x.input(0);
        }
        int and = 3;
        for (int i = 4; i < 8; i++) {
            and = x.gate(0, and, i, 0);
        }
        // Of numbers from 248 the first with bit 0 is 249, the first with bit 1 is 250.
        x.promise(1, and, 0);
        x.promise(1, and, 1);
        due.is("walk() of 1024", x.walk(), -252);
        countsAre("1024", x, 250, 0, 250);
        long[] want = {0, 1, 249, 0, 249};
        for (int what = 0; what < 5; what++) {
            due.is("never(0, " + what + ")", x.never(0, what), want[what]);
            due.is("never(1, " + what + ")", x.never(1, what), -2);
        }
        stateIs(x, 0, 0, -2, 0, 0, 0, 0, -2);
        stateIs(x, 249, 249, 0, 1, 249, 0, 1, -2);
    }

    /** Terms: "250 STATES and 20000 MOMENTS at most": 20000 are taken (the net was searched for). */
    private void exactly20000Moments() {
        ClockCourt x = new ClockCourt();
        x.input(0);
        x.input(1);
        x.input(2);
        x.input(0);
        x.keeper(3, 0);
        x.connect(4, 3);
        x.bound(2, 0, 3);
        x.bound(3, 2, 1);
        due.is("walk() of 20000 moments", x.walk(), 208);
        countsAre("20000 moments", x, 208, 208, 20000);
        due.is("the last state was looked at to the last one", x.state(207, 6) > 0 ? 1 : 0, 1);
    }

    /** Terms: "20000 MOMENTS at most: where one more would come the walk ends, SPENT." (the net has 20002) */
    private void oneMomentMore() {
        ClockCourt x = new ClockCourt();
        for (int clock = 0; clock < 3; clock++) {
            x.input(clock);
        }
        x.keeper(0, 1);
        x.keeper(2, 0);
        x.keeper(3, 0);
        x.keeper(0, 1);
        x.gate(0, 1, 0, 0);
        x.gate(2, 0, 5, 0);
        x.gate(3, 2, 0, 0);
        x.connect(3, 2);
        x.connect(4, 6);
        x.connect(5, 3);
        x.connect(6, 3);
        x.bound(2, 3, 1);
        due.is("walk() of 20002 moments", x.walk(), -244);
        countsAre("20002 moments", x, 242, 241, 20000);
        due.is("state(240, 6)", x.state(240, 6) > 0 ? 1 : 0, 1);
        due.is("state(241, 6)", x.state(241, 6), -2);
        due.is("fewest(241)", x.fewest(241) >= 0 ? 1 : 0, 1);
    }

    /** Promise 15: "TO WALK": again, behind the run went on, a promise came, the net was changed and changed back. */
    private void walkedAgain() {
        ClockCourt x = counter(8);
        due.is("walk()", x.walk(), -252);
        due.is("walk() again", x.walk(), -252);
        x.moment(1, 0, 0);
        due.is("walk() while the run goes on", x.walk(), -252);
        stateIs(x, 0, 0, -2, 0, 0, 0, 0, 1);
        x.promise(0, 1, 0);
        due.is("walk() behind a promise", x.walk(), -252);
        countsAre("again", x, 250, 249, 249);
        due.is("never(0, 0)", x.never(0, 0), -2);
        x.connect(7, 7);
        due.is("walk() of 128", x.walk(), 128);
        countsAre("128", x, 128, 128, 128);
        due.is("fewest(127)", x.fewest(127), 0);
        due.is("state(128, 0)", x.state(128, 0), -1);
        x.connect(0, 0);
        due.is("walk() of one that stays", x.walk(), 1);
        countsAre("one", x, 1, 1, 1);
        ClockCourt y = sixSamplers();
        y.walk();
        due.is("three of six became the other value", y.fewest(8), 3);
        for (int i = 2; i <= 6; i++) {
            y.connect(i, i - 1);
        }
        due.is("walk() of a chain", y.walk(), 128);
        for (int k = 0; k < 128; k++) {
            due.is("fewest(" + k + ") of a chain", y.fewest(k), 0);
        }
        for (int i = 2; i <= 6; i++) {
            y.connect(i, 0);
        }
        due.is("walk() as at first", y.walk(), 128);
        due.is("fewest(8) as at first", y.fewest(8), 3);
    }

    /** Promises 16, 17, 19, 20: "-1.": where nothing was walked there is no STATE. Promise 24: 5, 6, 7 are 0. */
    private void unwalked() {
        ClockCourt x = Built.busyNet();
        countsAre("unwalked", x, 0, 0, 0);
        for (int what = 0; what < 7; what++) {
            due.is("state(0, " + what + ")", x.state(0, what), -1);
        }
        due.is("shown(0, 0)", x.shown(0, 0), -1);
        due.is("follow(0)", x.follow(0), -1);
        due.is("fewest(0)", x.fewest(0), -1);
    }

    /** Promise 16: "Of STATE k: 0 the BITS' values [..] 6 how many can follow (-2: it wasn't LOOKED AT [..]). -1." */
    private void states() {
        int states = Built.busy().count(5);
        due.is("the last state", Built.busy().state(states - 1, 5) > 0 ? 1 : 0, 1);
        for (int what = 0; what < 7; what++) {
            int w = what;
            refused.outside("state(#, " + w + ")", 0, states - 1, (x, n) -> x.state(n, w), -1);
        }
        for (int k : new int[] {0, 1, states - 1}) {
            refused.outside("state(" + k + ", #)", 0, 6, (x, n) -> x.state(k, n), -1);
        }
        refused.isOfFull("state(250, 0)", x -> x.state(250, 0), -1);
        ClockCourt y = Built.full();
        due.is("state(249, 5)", y.state(249, 5) > 0 ? 1 : 0, 1);
        due.is("the last that was looked at", y.state(y.count(6) - 1, 6) > 0 || y.count(6) == 0 ? 1 : 0, 1);
        due.is("the first that was not", y.state(y.count(6), 6), -2);
        due.is("the last that was not", y.state(249, 6), -2);
    }

    /** Promise 17: "The value of a CELL in STATE k. -1." */
    private void shown() {
        int states = Built.busy().count(5);
        refused.outside("shown(#, 0)", 0, states - 1, (x, n) -> x.shown(n, 0), -1);
        refused.outside("shown(0, #)", 0, 6, (x, n) -> x.shown(0, n), -1);
        refused.outside("shown(last, #)", 0, 6, (x, n) -> x.shown(states - 1, n), -1);
        ClockCourt y = Built.busy();
        for (int k : new int[] {0, 1, states - 1}) {
            int bits = y.state(k, 0);
            int[] values = {bits & 1, bits >> 1 & 1, bits >> 2 & 1, bits >> 3 & 1, 0, 0, bits >> 4 & 1};
            values[4] = values[2] == 1 ? values[0] : values[3];
            values[5] = 1 - values[2];
            for (int cell = 0; cell < 7; cell++) {
                due.is("shown(" + k + ", " + cell + ")", y.shown(k, cell), values[cell]);
            }
        }
        ClockCourt z = Built.full();
        due.is("shown(249, 22) and shown(249, 23)", z.shown(249, 22) + z.shown(249, 23), 1);
        due.is("shown(249, 24)", z.shown(249, 24), -1);
    }

    /** Promise 18: "what = 0 the STATE that was LOOKED AT [..], 1 to 3 CHOICES, 4 the STATE that came. -1". */
    private void neverNumbers() {
        for (int what = 0; what < 5; what++) {
            int w = what;
            refused.outside("never(#, " + w + ")", 0, 3, (x, n) -> x.never(n, w), -1);
            due.is("never(3, " + w + "): not broken", Built.busy().never(3, w), -2);
        }
        for (int promise = 0; promise < 4; promise++) {
            int p = promise;
            refused.outside("never(" + p + ", #)", 0, 4, (x, n) -> x.never(p, n), -1);
        }
        refused.isOfFull("never(8, 0)", x -> x.never(8, 0), -1);
        refused.isOfFull("never(7, 5)", x -> x.never(7, 5), -1);
        // The second moment: clock 0 alone (by the first one the input stays 0), the input comes, keeper 2 is 1.
        ClockCourt y = Built.busy();
        long[] want = {0, 1, 1, 0, 2};
        for (int what = 0; what < 5; what++) {
            due.is("never(1, " + what + ")", y.never(1, what), want[what]);
        }
    }

    /** Promise 18: "(-2: at the beginning)"; Terms: "A PROMISE is broken at the beginning, or by a MOMENT". */
    private void neverAtTheBeginning() {
        ClockCourt x = Built.busy();
        due.is("never(0, 0)", x.never(0, 0), -2);
        for (int what = 1; what < 5; what++) {
            due.is("never(0, " + what + ")", x.never(0, what), 0);
        }
    }

    /** Terms: "Each time the PROMISES are looked at, too (also where the STATE was there)." */
    private void neverByAStateThatWasThere() {
        // 00, 01, 11 and back to 00: only the last moment changes both bits, and its state is there.
        ClockCourt x = new ClockCourt();
        x.keeper(0, 0);
        x.keeper(0, 0);
        x.gate(3, 1, 0, 0);
        x.gate(0, 0, 2, 0);
        x.connect(0, 2);
        x.connect(1, 3);
        x.promise(3, 0, 1);
        x.promise(3, 0, 0);
        due.is("walk()", x.walk(), 3);
        long[] want = {2, 1, 0, 0, 0};
        for (int what = 0; what < 5; what++) {
            due.is("never(0, " + what + ")", x.never(0, what), want[what]);
            due.is("never(1, " + what + ")", x.never(1, what), -2);
        }
        // Two inputs: the first moment that changes both goes from the beginning.
        ClockCourt y = new ClockCourt();
        y.input(3);
        y.input(3);
        y.promise(3, 0, 1);
        due.is("walk() of two inputs", y.walk(), 4);
        long[] first = {0, 8, 3, 0, 3};
        for (int what = 0; what < 5; what++) {
            due.is("never(0, " + what + ") of two inputs", y.never(0, what), first[what]);
        }
    }

    /** Promise 18: "-1; -2: it is not broken; -3: nothing was walked." */
    private void neverUnwalked() {
        unwalked("never(0, 0): broken at the beginning", x -> x.never(0, 0), -3);
        unwalked("never(3, 4): not broken", x -> x.never(3, 4), -3);
        unwalked("never(4, 0)", x -> x.never(4, 0), -1);
        unwalked("never(-1, 0)", x -> x.never(-1, 0), -1);
        unwalked("never(0, 5)", x -> x.never(0, 5), -1);
        unwalked("never(0, -1)", x -> x.never(0, -1), -1);
    }

    private void unwalked(String call, ToLongFunction<ClockCourt> made, long want) {
        refused.is(call, "unwalked", Built::busyNet, made, want);
    }

    /** Promise 19: "THE RUN goes from the beginning by the MOMENTS that lead to STATE k: how many. -1". */
    private void follow() {
        int states = Built.busy().count(5);
        refused.outside("follow(#)", 0, states - 1, (x, n) -> x.follow(n), -1);
        refused.isOfFull("follow(250)", x -> x.follow(250), -1);
        for (int k = 0; k < states; k++) {
            ClockCourt x = Built.busy();
            due.is("follow(" + k + ")", x.follow(k), x.state(k, 5));
            due.is("its moments", x.count(4), x.state(k, 5));
            for (int cell = 0; cell < 7; cell++) {
                due.is("value(" + cell + ") behind follow(" + k + ")", x.value(cell), x.shown(k, cell));
            }
        }
    }

    /** Promise 19: "-3: there are more than 60.": 60 are taken. */
    private void followTheLongest() {
        ClockCourt x = counter(6);
        x.walk();
        due.is("state(60, 5)", x.state(60, 5), 60);
        due.is("follow(60)", x.follow(60), 60);
        due.is("count(4)", x.count(4), 60);
        due.is("a moment more", x.moment(1, 0, 0), -3);
        for (int cell = 0; cell < 6; cell++) {
            due.is("value(" + cell + ")", x.value(cell), 60 >> cell & 1);
        }
        due.is("follow(59)", x.follow(59), 59);
        due.is("a moment more", x.moment(1, 0, 0), 0);
        for (int k : new int[] {61, 62, 63}) {
            refused.is("follow(" + k + ")", "counter", EdgeWalkTest::countedThree, y -> y.follow(k), -3);
        }
        refused.is("follow(64)", "counter", EdgeWalkTest::countedThree, y -> y.follow(64), -1);
    }

    private static ClockCourt countedThree() {
        ClockCourt x = counter(6);
        x.walk();
        for (int m = 0; m < 3; m++) {
            x.moment(1, 0, 0);
        }
        return x;
    }

    /** Promise 20: "The fewest KEEPERS that became the other value, in all MOMENTS together, on any way". */
    private void fewest() {
        ClockCourt x = sixSamplers();
        x.walk();
        for (int k = 0; k < 128; k++) {
            // All six sample one value by the latest moment of their clock; who has another became the other value.
            int ones = Integer.bitCount(x.state(k, 0) >> 1);
            due.is("fewest(" + k + ")", x.fewest(k), Math.min(ones, 6 - ones));
        }
    }

    /** Promise 20: "-1.": no such STATE. */
    private void fewestRefused() {
        int states = Built.busy().count(5);
        refused.outside("fewest(#)", 0, states - 1, (x, n) -> x.fewest(n), -1);
        refused.isOfFull("fewest(250)", x -> x.fewest(250), -1);
    }

    /**
     * Promise 20: "by STATES of the walk that were LOOKED AT (to the last one); -2: there is no such way.": where the
     * first one was not, there is no way but the one of no moments.
     */
    private void noWay() {
        ClockCourt x = new ClockCourt();
        for (int i = 0; i < 8; i++) {
            x.input(0);
        }
        due.is("walk() of 256 from the first one", x.walk(), -252);
        due.is("fewest(0)", x.fewest(0), 0);
        for (int k : new int[] {1, 2, 248, 249}) {
            due.is("fewest(" + k + ")", x.fewest(k), -2);
        }
        ClockCourt y = counter(6);
        for (int i = 0; i < 4; i++) {
            y.input(1);
        }
        // State 0 has a moment of clock 0, 16 of clock 1 and 16 of both: 31 states more. The next ones bring more.
        due.is("walk() of 1024", y.walk(), -252);
        int looked = y.count(6);
        due.is("some were looked at", looked > 0 && looked < 250 ? 1 : 0, 1);
        for (int k = 0; k < 250; k += 3) {
            int from = k == 0 ? 0 : y.state(k, 1);
            due.is("fewest(" + k + ")", y.fewest(k), from < looked ? 0 : -2);
        }
        due.is("the last one comes from one that was not", y.state(249, 1), looked);
        due.is("the last one has no way", y.fewest(249), -2);
    }
}
