/** Promises 15 to 20: the walk through all states. */
public final class WalkTest {
    private final Due due = new Due();

    public static void main(String[] args) {
        WalkTest t = new WalkTest();
        t.states();
        t.never();
        t.neverAtTheBeginning();
        t.neverByAnOldState();
        t.fewest();
        t.follow();
        t.longWays();
        t.bounds();
        t.inputsFirst();
        t.spentByStates();
        t.spentByMoments();
        t.notSpent();
        t.exactly250();
        t.refusals();
        t.due.end();
    }

    /** Keeper 0 turns over by clock 0; keepers 2 and 3, of clock 1, both sample it. */
    private static ClockCourt twoSamplers() {
        ClockCourt x = new ClockCourt();
        x.keeper(0, 0);
        x.gate(3, 0, 0, 0);
        x.connect(0, 1);
        x.keeper(1, 0);
        x.connect(2, 0);
        x.keeper(1, 0);
        x.connect(3, 0);
        return x;
    }

    /** Keepers of clock 0 that count up, in binary digits. */
    private static ClockCourt counter(int digits) {
        ClockCourt x = new ClockCourt();
        for (int i = 0; i < digits; i++) {
            x.keeper(0, 0);
        }
        x.connect(0, x.gate(3, 0, 0, 0));
        int carry = 0;
        for (int i = 1; i < digits; i++) {
            x.connect(i, x.gate(2, i, carry, 0));
            carry = i < digits - 1 ? x.gate(0, i, carry, 0) : carry;
        }
        return x;
    }

    /**
     * Promise 16: "Of STATE k: 0 the BITS' values (bit i: the i-th BIT by CELLS), 1 the STATE from which it came (-2:
     * the beginning), 2 to 4 the CHOICES of the MOMENT that brought it". Promise 17: "The value of a CELL in STATE k."
     */
    private void states() {
        ClockCourt x = twoSamplers();
        x.moment(1, 0, 0);
        due.is("walk()", x.walk(), 8);
        due.is("walk() leaves the run", x.count(4), 1);
        due.is("value(0) of the run", x.value(0), 1);
        due.is("walk() again", x.walk(), 8);
        due.is("count(5)", x.count(5), 8);
        due.is("count(6)", x.count(6), 8);
        due.is("count(7)", x.count(7), 48);
        long[][] want = {
            {0, -2, 0, 0, 0, 0, 6}, {1, 0, 1, 0, 0, 1, 6}, {3, 0, 3, 0, 1, 1, 6}, {5, 0, 3, 0, 2, 1, 6},
            {7, 0, 3, 0, 3, 1, 6}, {6, 1, 3, 0, 0, 2, 6}, {4, 1, 3, 0, 1, 2, 6}, {2, 1, 3, 0, 2, 2, 6}};
        for (int k = 0; k < want.length; k++) {
            for (int what = 0; what < 7; what++) {
                due.is("state(" + k + ", " + what + ")", x.state(k, what), want[k][what]);
            }
            due.is("shown(" + k + ", 0)", x.shown(k, 0), want[k][0] & 1);
            due.is("shown(" + k + ", 1)", x.shown(k, 1), 1 - (want[k][0] & 1));
            due.is("shown(" + k + ", 2)", x.shown(k, 2), want[k][0] >> 1 & 1);
            due.is("shown(" + k + ", 3)", x.shown(k, 3), want[k][0] >> 2);
        }
    }

    /** Promise 18: "By which a PROMISE is broken first in the walk". */
    private void never() {
        ClockCourt x = twoSamplers();
        due.is("AS", x.promise(2, 2, 3), 0);
        due.is("ONE", x.promise(3, 0, 3), 1);
        due.is("NEVER BOTH of a cell and its NOT", x.promise(1, 0, 1), 2);
        due.is("NEVER BOTH", x.promise(1, 2, 3), 3);
        due.is("never(0, 0) unwalked", x.never(0, 0), -3);
        due.is("never(4, 0) unwalked", x.never(4, 0), -1);
        due.is("never(0, 5) unwalked", x.never(0, 5), -1);
        x.walk();
        long[][] want = {{0, 3, 0, 1, 2}, {0, 3, 0, 1, 2}, {-2, -2, -2, -2, -2}, {0, 3, 0, 3, 4}};
        for (int p = 0; p < 4; p++) {
            for (int what = 0; what < 5; what++) {
                due.is("never(" + p + ", " + what + ")", x.never(p, what), want[p][what]);
            }
            due.is("never(" + p + ", 5)", x.never(p, 5), -1);
            due.is("never(" + p + ", -1)", x.never(p, -1), -1);
        }
        due.is("never(4, 0)", x.never(4, 0), -1);
        due.is("never(-1, 0)", x.never(-1, 0), -1);
    }

    /** Promise 18: "what = 0 the STATE that was LOOKED AT (-2: at the beginning)". */
    private void neverAtTheBeginning() {
        ClockCourt x = twoSamplers();
        x.promise(0, 2, 0);
        x.walk();
        due.is("the beginning", x.never(0, 0), -2);
        for (int what = 1; what <= 4; what++) {
            due.is("never(0, " + what + ") at the beginning", x.never(0, what), 0);
        }
    }

    /** Terms: "Each time the PROMISES are looked at, too (also where the STATE was there)." */
    private void neverByAnOldState() {
        // 00, 01, 11 and back to 00: only the last moment changes both bits, and its state is there.
        ClockCourt x = new ClockCourt();
        x.keeper(0, 0);
        x.keeper(0, 0);
        x.gate(3, 1, 0, 0);
        x.gate(0, 0, 2, 0);
        x.connect(0, 2);
        x.connect(1, 3);
        x.promise(3, 0, 1);
        due.is("walk() of three", x.walk(), 3);
        due.is("count(7) of three", x.count(7), 3);
        long[] want = {2, 1, 0, 0, 0};
        for (int what = 0; what < 5; what++) {
            due.is("never(0, " + what + ") of three", x.never(0, what), want[what]);
        }
        due.is("follow(2) of three", x.follow(2), 2);
        due.is("broken(0) not yet", x.broken(0), -2);
        x.moment(1, 0, 0);
        due.is("broken(0) then", x.broken(0), 3);
    }

    /**
     * Promise 20: "The fewest KEEPERS that became the other value, in all MOMENTS together, on any way from the
     * beginning to STATE k".
     */
    private void fewest() {
        ClockCourt x = twoSamplers();
        x.walk();
        long[] want = {0, 0, 1, 1, 0, 0, 1, 1};
        for (int k = 0; k < 8; k++) {
            due.is("fewest(" + k + ")", x.fewest(k), want[k]);
        }
        due.is("fewest(8)", x.fewest(8), -1);
        due.is("fewest(-1)", x.fewest(-1), -1);
        x.connect(3, 2);
        due.is("fewest(0) unwalked", x.fewest(0), -1);
        due.is("walk() of a chain", x.walk(), 8);
        for (int k = 0; k < 8; k++) {
            due.is("fewest(" + k + ") of a chain", x.fewest(k), 0);
        }
    }

    /** Promise 19: "THE RUN goes from the beginning by the MOMENTS that lead to STATE k: how many." */
    private void follow() {
        ClockCourt x = twoSamplers();
        x.promise(2, 2, 3);
        x.moment(2, 0, 0);
        x.moment(1, 0, 0);
        x.walk();
        due.is("follow(6)", x.follow(6), 2);
        due.is("value(0)", x.value(0), 0);
        due.is("value(2): the other value", x.value(2), 0);
        due.is("value(3)", x.value(3), 1);
        due.is("count(4)", x.count(4), 2);
        due.is("either(1)", x.either(1), 3);
        due.is("broken(0)", x.broken(0), 2);
        due.is("the walk stays", x.count(5), 8);
        x.keep(0, 4, 0);
        due.is("the first moment's clocks", Due.element(x, 0, 0), 1);
        due.is("the second moment's clocks", Due.element(x, 0, 1), 3);
        due.is("follow(8)", x.follow(8), -1);
        due.is("follow(-1)", x.follow(-1), -1);
        due.is("count(4) behind a refused one", x.count(4), 2);
        due.is("follow(0)", x.follow(0), 0);
        due.is("count(4) at the beginning", x.count(4), 0);
        due.is("either(0) at the beginning", x.either(0), -1);
        due.is("broken(0) at the beginning", x.broken(0), -2);
    }

    /** Promise 19: "-3: there are more than 60." */
    private void longWays() {
        ClockCourt x = counter(6);
        x.moment(1, 0, 0);
        due.is("walk() of a counter", x.walk(), 64);
        due.is("state(63, 5)", x.state(63, 5), 63);
        due.is("state(63, 0)", x.state(63, 0), 63);
        due.is("follow(63)", x.follow(63), -3);
        due.is("follow(61)", x.follow(61), -3);
        due.is("follow(64)", x.follow(64), -1);
        due.is("the run stays", x.count(4), 1);
        due.is("follow(60)", x.follow(60), 60);
        due.is("value(5)", x.value(5), 1);
        due.is("value(1)", x.value(1), 0);
        due.is("a moment behind 60", x.moment(1, 0, 0), -3);
    }

    /** Terms: "all MOMENTS that can be, by sets of CLOCKS as numbers (1 .. 15; without CLOCKS that no BIT has)". */
    private void bounds() {
        ClockCourt x = new ClockCourt();
        x.keeper(0, 0);
        x.connect(0, x.gate(3, 0, 0, 0));
        due.is("walk() without a bound", x.walk(), 2);
        x.bound(0, 1, 2);
        due.is("walk(): clock 1 has no bit", x.walk(), 3);
        due.is("state(2, 0)", x.state(2, 0), 0);
        due.is("state(1, 6)", x.state(1, 6), 1);
        due.is("state(2, 6): nothing can follow", x.state(2, 6), 0);
        due.is("count(6)", x.count(6), 3);
        due.is("count(7)", x.count(7), 2);
        due.is("follow(2)", x.follow(2), 2);
        due.is("ticks(0, 1)", x.ticks(0, 1), 2);
        x.keeper(1, 1);
        // Keeper 2 has one value; the states are the value of 0 with 0, 1, 2 ticks.
        due.is("walk() with a bit of clock 1", x.walk(), 6);
        due.is("count(7): two of them can't go on by clock 0 alone", x.count(7), 16);
    }

    /** Terms: "then values of INPUTS as numbers, then KEEPERS that become the other value as numbers". */
    private void inputsFirst() {
        // Input 0, and keeper 1 of another clock that samples it: by sets, then inputs, then others.
        ClockCourt x = new ClockCourt();
        x.input(3);
        x.keeper(1, 0);
        x.connect(1, 0);
        due.is("walk()", x.walk(), 4);
        due.is("count(7)", x.count(7), 4 * 6);
        long[][] want = {{0, -2, 0, 0, 0}, {1, 0, 8, 1, 0}, {3, 0, 10, 1, 1}, {2, 1, 10, 0, 0}};
        for (int k = 0; k < 4; k++) {
            for (int what = 0; what < 5; what++) {
                due.is("inputs: state(" + k + ", " + what + ")", x.state(k, what), want[k][what]);
            }
        }
    }

    /** Terms: "250 STATES and 20000 MOMENTS at most: where one more would come the walk ends, SPENT." */
    private void spentByStates() {
        ClockCourt x = new ClockCourt();
        for (int i = 0; i < 10; i++) {
            x.input(0);
        }
        x.promise(1, 0, 1);
        x.promise(1, 1, 8);
        x.gate(0, 6, 7, 0);
        x.gate(0, 10, 5, 0);
        x.gate(0, 11, 4, 0);
        x.gate(0, 12, 3, 0);
        x.gate(0, 13, 1, 0);
        x.promise(1, 14, 14);
        due.is("walk() of 1024", x.walk(), -252);
        due.is("count(5)", x.count(5), 250);
        due.is("count(6)", x.count(6), 0);
        due.is("count(7)", x.count(7), 250);
        due.is("state(0, 6)", x.state(0, 6), -2);
        due.is("state(249, 0)", x.state(249, 0), 249);
        due.is("state(249, 3)", x.state(249, 3), 249);
        due.is("state(250, 0)", x.state(250, 0), -1);
        due.is("fewest(0)", x.fewest(0), 0);
        due.is("fewest(1): no state was looked at to the last", x.fewest(1), -2);
        due.is("never(0, 4)", x.never(0, 4), 3);
        due.is("never(1, 4)", x.never(1, 4), -2);
        due.is("never(2, 4): 250 came no more", x.never(2, 4), -2);
        due.is("follow(249)", x.follow(249), 1);
        due.is("walk() of 1024 again", x.walk(), -252);
    }

    /** Terms: "250 STATES and 20000 MOMENTS at most: where one more would come the walk ends, SPENT." */
    private void spentByMoments() {
        ClockCourt x = new ClockCourt();
        for (int i = 0; i < 7; i++) {
            x.input(i < 5 ? 0 : 1);
        }
        due.is("walk() of 164 moments a state", x.walk(), -130);
        due.is("count(5)", x.count(5), 128);
        due.is("count(6)", x.count(6), 121);
        due.is("count(7)", x.count(7), 20000);
        due.is("state(120, 6)", x.state(120, 6), 164);
        due.is("state(121, 6)", x.state(121, 6), -2);
        due.is("state(127, 6)", x.state(127, 6), -2);
        due.is("fewest(127)", x.fewest(127), 0);
    }

    /** Promise 15: "how many STATES there are; -2 less that: SPENT." */
    private void notSpent() {
        ClockCourt x = new ClockCourt();
        for (int i = 0; i < 7; i++) {
            x.input(i < 4 ? 0 : 1);
        }
        due.is("walk() of 152 moments a state", x.walk(), 128);
        due.is("count(6)", x.count(6), 128);
        due.is("count(7)", x.count(7), 128 * 152);
        ClockCourt y = counter(7);
        due.is("walk() of 128 states", y.walk(), 128);
        due.is("count(7) of 128 states", y.count(7), 128);
        ClockCourt z = counter(8);
        due.is("walk() of 256 states", z.walk(), -252);
        due.is("count(7) of 256 states", z.count(7), 249);
        due.is("count(6) of 256 states", z.count(6), 249);
        due.is("fewest(249): it wasn't looked at, but comes from one that was", z.fewest(249), 0);
        due.is("state(249, 6)", z.state(249, 6), -2);
        due.is("state(248, 6)", z.state(248, 6), 1);
    }

    /** Terms: "250 STATES and 20000 MOMENTS at most": 250 are not too many. */
    private void exactly250() {
        ClockCourt x = new ClockCourt();
        x.input(0);
        x.keeper(2, 0);
        x.connect(1, x.gate(3, 1, 0, 0));
        x.bound(0, 1, 6);
        x.bound(2, 0, 9);
        due.is("walk() of 250 states", x.walk(), 250);
        due.is("count(6) of 250 states", x.count(6), 250);
        due.is("count(7) of 250 states", x.count(7), 1065);
        due.is("fewest(249) of 250 states", x.fewest(249), 0);
        due.is("state(250, 0) of 250 states", x.state(250, 0), -1);
        x.bound(0, 1, 7);
        due.is("walk() of more", x.walk(), -252);
        due.is("state(249, 6) of more", x.state(249, 6), -2);
    }

    /** Promise 15: "-3: no BITS." Promises 16, 17, 19: "-1", where there is no such STATE or CELL. */
    private void refusals() {
        ClockCourt x = new ClockCourt();
        due.is("walk() without bits", x.walk(), -3);
        x.input(0);
        due.is("state(0, 0) unwalked", x.state(0, 0), -1);
        due.is("shown(0, 0) unwalked", x.shown(0, 0), -1);
        due.is("follow(0) unwalked", x.follow(0), -1);
        due.is("walk()", x.walk(), 2);
        due.is("state(2, 0)", x.state(2, 0), -1);
        due.is("state(-1, 0)", x.state(-1, 0), -1);
        due.is("state(0, 7)", x.state(0, 7), -1);
        due.is("state(0, -1)", x.state(0, -1), -1);
        due.is("shown(0, 1)", x.shown(0, 1), -1);
        due.is("shown(0, -1)", x.shown(0, -1), -1);
        due.is("shown(2, 0)", x.shown(2, 0), -1);
        due.is("shown(-1, 0)", x.shown(-1, 0), -1);
        due.is("shown(1, 0)", x.shown(1, 0), 1);
    }
}
