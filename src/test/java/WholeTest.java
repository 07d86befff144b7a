import java.util.HashSet;
import java.util.List;
import java.util.Set;

/** The document from its first line to its last: sentences of which no other test has the words. */
public final class WholeTest {
    private final Due due = new Due();

    public static void main(String[] args) {
        WholeTest t = new WholeTest();
        t.whatItIs();
        t.wayThatIsShown();
        t.toldFromWithout();
        t.setOfClocks();
        t.inputsBecomeWhatIsChosen();
        t.momentsThatCanBe();
        t.howManyWereEither();
        t.lookedAtOneAfterTheOther();
        t.statesAreThereOnce();
        t.momentThatBroughtIt();
        t.ofEachCrossing();
        t.counts();
        t.refusalsOfShelves();
        t.weightAndFailure();
        t.askingChangesNothing();
        t.objectsAreApart();
        t.sameCallsSameAnswers();
        t.due.end();
    }

    /** Input 0 of clock 0, and two keepers of clock 1, 1 and 2, that sample it. */
    private static ClockCourt twoSamplers() {
        ClockCourt x = new ClockCourt();
        x.input(0);
        x.keeper(1, 0);
        x.keeper(1, 0);
        x.connect(1, 0);
        x.connect(2, 0);
        return x;
    }

    /**
     * What it is: "bits that are sampled while they change come out either way, runs are made moment by moment or gone
     * through all, promises are kept or broken by a way that is shown, crossings from clock to clock are told by their
     * shape and mended."
     */
    private void whatItIs() {
        ClockCourt x = twoSamplers();
        due.is("a promise that both have one value", x.promise(2, 1, 2), 0);
        for (int others = 0; others < 4; others++) {
            x.start();
            due.is("both come out either way", x.moment(3, 1, others), 2);
            due.is("value(1) of " + others, x.value(1), others & 1);
            due.is("value(2) of " + others, x.value(2), others >> 1);
            due.is("broken(0) of " + others, x.broken(0), others == 0 || others == 3 ? -2 : 1);
        }
        due.is("both are PLAIN", x.crossing(0, 1) + 10 * x.crossing(1, 1), 33);
        due.is("mend(0)", x.mend(0), 3);
        due.is("the other one samples the mended", x.connect(2, 1), 0);
        due.is("the mended is used by two, so PLAIN again", x.crossing(0, 1), 3);
        due.is("the other one samples what mends it", x.connect(2, 3), 1);
        due.is("one crossing", x.crossings(), 1);
        due.is("TWICE", x.crossing(0, 1), 1);
        due.is("a promise that both have one value then", x.promise(2, 3, 2), 1);
        due.is("is broken, since one comes later", x.walk() > 0 && x.never(1, 0) >= 0 ? 1 : 0, 1);
    }

    /**
     * What it is: "promises are kept or broken by a way that is shown": the moments that lead to the state that was
     * looked at and then the choices break the promise, and none before them does.
     */
    private void wayThatIsShown() {
        ClockCourt x = Built.busyNet();
        int four = x.promise(1, 2, 3);
        int five = x.promise(2, 4, 6);
        int six = x.promise(3, 1, 3);
        x.walk();
        int shown = 0;
        for (int p : new int[] {1, 2, four, five, six}) {
            if (x.never(p, 0) < 0) {
                continue;
            }
            shown++;
            int lead = x.follow(x.never(p, 0));
            due.is("promise " + p + " is kept up to there", x.broken(p), -2);
            due.is("promise " + p + ": the moment can be",
                x.moment(x.never(p, 1), x.never(p, 2), x.never(p, 3)) >= 0 ? 1 : 0, 1);
            due.is("promise " + p + " is broken by it", x.broken(p), lead + 1);
            for (int cell = 0; cell < 7; cell++) {
                due.is("promise " + p + ": cell " + cell, x.value(cell), x.shown(x.never(p, 4), cell));
            }
        }
        due.is("promises that were shown to be broken", shown, 5);
    }

    /** Terms: "INPUTS, told from without, and KEEPERS, which have a SOURCE": an input stays till it is told. */
    private void toldFromWithout() {
        ClockCourt x = new ClockCourt();
        x.input(2);
        x.keeper(2, 1);
        due.is("an input has no source to connect", x.connect(0, 1), -1);
        x.moment(4, 1, 0);
        for (int m = 0; m < 3; m++) {
            x.moment(11, 0, 0);
            due.is("the input stays while its clock is still", x.value(0), 1);
            due.is("the keeper stays as its own source", x.value(1), 1);
        }
        x.moment(4, 0, 0);
        due.is("the input is told", x.value(0), 0);
        due.is("the keeper isn't", x.value(1), 1);
    }

    /** Terms: "CHOICES of a MOMENT: the set of CLOCKS (bit c)": a keeper of each clock turns over. */
    private void setOfClocks() {
        ClockCourt x = new ClockCourt();
        for (int c = 0; c < 4; c++) {
            x.keeper(c, 0);
        }
        for (int c = 0; c < 4; c++) {
            x.connect(c, x.gate(3, c, 0, 0));
        }
        int now = 0;
        for (int set = 1; set <= 15; set++) {
            due.is("moment(" + set + ")", x.moment(set, 0, 0), 0);
            now ^= set;
            for (int c = 0; c < 4; c++) {
                due.is("clock " + c + " behind set " + set, x.value(c), now >> c & 1);
            }
        }
    }

    /** Terms: "Each INPUT of a CLOCK that ticks becomes what is chosen." */
    private void inputsBecomeWhatIsChosen() {
        ClockCourt x = new ClockCourt();
        for (int i = 0; i < 8; i++) {
            x.input(i % 4);
        }
        int now = 0;
        for (int set = 1; set <= 15; set++) {
            int chosen = 37 * set & 255;
            x.moment(set, chosen, 0);
            int place = 0;
            for (int i = 0; i < 8; i++) {
                if ((set >> i % 4 & 1) == 1) {
                    now = now & ~(1 << i) | (chosen >> place & 1) << i;
                    place++;
                }
                due.is("input " + i + " behind set " + set, x.value(i), now >> i & 1);
            }
        }
    }

    /** Terms: "A MOMENT: some CLOCKS tick (a set, not empty). It can be, if behind it no BOUND is broken". */
    private void momentsThatCanBe() {
        for (int pair = 0; pair < 16; pair++) {
            int c = pair / 4;
            int d = pair % 4;
            if (c == d) {
                continue;
            }
            ClockCourt x = new ClockCourt();
            x.bound(c, d, 1);
            due.is("no clock", x.moment(0, 0, 0), -1);
            x.moment(1 << c, 0, 0);
            for (int set = 1; set <= 15; set++) {
                boolean can = (set >> c & 1) == 0 || (set >> d & 1) == 1;
                due.is("bound of " + c + ", " + d + ": set " + set, x.moment(set, 0, 0), can ? 0 : -2);
                if (can) {
                    x.start();
                    x.moment(1 << c, 0, 0);
                }
            }
        }
    }

    /** Promise 10: "A MOMENT of THE RUN: how many KEEPERS were EITHER." */
    private void howManyWereEither() {
        for (int n = 0; n <= 9; n++) {
            ClockCourt x = new ClockCourt();
            x.input(3);
            for (int i = 1; i <= 9; i++) {
                x.keeper(i % 3, 0);
                if (i <= n) {
                    x.connect(i, 0);
                }
            }
            due.is(n + " of nine keepers", x.moment(15, 1, 0), n);
            for (int i = 0; i < n; i++) {
                due.is("either(" + i + ") of " + n, x.either(i), i + 1);
            }
            due.is("either(" + n + ") of " + n, x.either(n), -1);
            due.is("nothing changes", x.moment(15, 1, 0), 0);
            due.is("a moment of the run", x.count(4), 2);
        }
    }

    /** Terms: "STATES are numbered from 0, the beginning; one after the other each is LOOKED AT". */
    private void lookedAtOneAfterTheOther() {
        ClockCourt x = Built.busyNet();
        int states = x.walk();
        int from = 0;
        due.is("the beginning came from none", x.state(0, 1), -2);
        for (int k = 1; k < states && k < 100; k++) {
            int now = x.state(k, 1);
            due.is("state " + k + " came from " + now + " behind " + from, now >= from && now < k ? 1 : 0, 1);
            due.is("moments that lead to " + k, x.state(k, 5), x.state(now, 5) + 1);
            from = now;
        }
    }

    /** Terms: "what comes is a new STATE, the last one, unless it is there." */
    private void statesAreThereOnce() {
        ClockCourt x = twoSamplers();
        int states = x.walk();
        due.is("walk()", states, 8);
        Set<Integer> seen = new HashSet<>();
        int moments = 0;
        for (int k = 0; k < states; k++) {
            due.is("the bits of state " + k + " come once", seen.add(x.state(k, 0)) ? 1 : 0, 1);
            moments += x.state(k, 6);
        }
        due.is("the moments of all states", x.count(7), moments);
        // Without keepers that are EITHER all states come from the beginning, by one set, in the inputs' order.
        ClockCourt y = new ClockCourt();
        for (int i = 0; i < 6; i++) {
            y.input(1);
        }
        due.is("walk() of six inputs", y.walk(), 64);
        for (int k = 1; k < 64; k++) {
            due.is("state " + k + " of inputs", y.state(k, 0), k);
            due.is("inputs that brought " + k, y.state(k, 3), k);
            due.is("state " + k + " came from the first", y.state(k, 1), 0);
        }
    }

    /**
     * Promise 16: "2 to 4 the CHOICES of the MOMENT that brought it: CLOCKS, INPUTS, KEEPERS (0: the beginning), 5 how
     * many MOMENTS lead there".
     */
    private void momentThatBroughtIt() {
        ClockCourt x = twoSamplers();
        int states = x.walk();
        for (int what = 2; what <= 5; what++) {
            due.is("state(0, " + what + ")", x.state(0, what), 0);
        }
        for (int k = 1; k < states; k++) {
            due.is("the way to where " + k + " came from", x.follow(x.state(k, 1)), x.state(k, 5) - 1);
            x.moment(x.state(k, 2), x.state(k, 3), x.state(k, 4));
            for (int cell = 0; cell < 3; cell++) {
                due.is("cell " + cell + " in state " + k, x.value(cell), x.shown(k, cell));
                due.is("bit " + cell + " of state " + k, x.value(cell), x.state(k, 0) >> cell & 1);
            }
        }
    }

    /** Promise 22: "Of CROSSING i: 0 its KEEPER, 1 KIND, 2 whether it MEETS, 3 whether it is BAD". */
    private void ofEachCrossing() {
        ClockCourt x = new ClockCourt();
        x.input(0);
        x.input(0);
        x.input(2);
        for (int i = 3; i < 10; i++) {
            x.keeper(1, 0);
        }
        x.connect(3, 0);
        x.connect(4, 3);
        x.connect(5, x.gate(4, 4, 1, 5));
        x.connect(6, 1);
        x.connect(7, x.gate(3, 1, 0, 0));
        x.connect(8, 2);
        x.still(2, true);
        x.connect(9, 9);
        long[][] want = {{3, 1, 0, 0}, {5, 2, 0, 0}, {6, 3, 0, 1}, {7, 4, 0, 1}, {8, 0, 0, 0}};
        due.is("crossings()", x.crossings(), want.length);
        crossingsAre("one of each", x, want);
        x.connect(6, 0);
        x.connect(9, 6);
        crossingsAre("two that meet", x, new long[][] {{3, 1, 1, 1}, {5, 2, 0, 0}, {6, 1, 1, 1}});
    }

    private void crossingsAre(String name, ClockCourt x, long[][] want) {
        for (int i = 0; i < want.length; i++) {
            for (int what = 0; what < 4; what++) {
                due.is(name + ": crossing(" + i + ", " + what + ")", x.crossing(i, what), want[i][what]);
            }
        }
    }

    /** Promise 24: "0 CELLS, 1 BITS, 2 GATES, 3 PROMISES, 4 MOMENTS of THE RUN, 5 STATES": each by itself. */
    private void counts() {
        ClockCourt x = new ClockCourt();
        x.input(0);
        countsAre("an input", x, 1, 1, 0, 0, 0, 0);
        x.keeper(1, 0);
        countsAre("a keeper", x, 2, 2, 0, 0, 0, 0);
        x.gate(3, 0, 0, 0);
        countsAre("a gate", x, 3, 2, 1, 0, 0, 0);
        x.promise(0, 2, 0);
        countsAre("a promise", x, 3, 2, 1, 1, 0, 0);
        x.moment(1, 0, 0);
        countsAre("a moment", x, 3, 2, 1, 1, 1, 0);
        x.walk();
        countsAre("a walk", x, 3, 2, 1, 1, 1, 2);
        x.moment(2, 0, 0);
        countsAre("another moment", x, 3, 2, 1, 1, 2, 2);
        x.connect(1, 0);
        countsAre("a source", x, 3, 2, 1, 1, 0, 0);
        x.mend(0);
        countsAre("a mended crossing", x, 4, 3, 1, 1, 0, 0);
    }

    private void countsAre(String behind, ClockCourt x, long... want) {
        for (int what = 0; what < want.length; what++) {
            due.is("count(" + what + ") behind " + behind, x.count(what), want[what]);
        }
    }

    /** Terms: "-13 a place that it doesn't have; -14 a size below 0; -15 a FAILURE that is none." */
    private void refusalsOfShelves() {
        ClockCourt x = new ClockCourt();
        x.input(1);
        x.keep(0, 1, x.gate(3, 0, 0, 0));
        x.make(1, 4, 3);
        due.is("a place that it doesn't have", x.copy(1, 2, 1, 0, 2), -13);
        due.is("a size below 0", x.make(1, 4, -3), -14);
        due.is("a FAILURE that is none", x.toss(0), -15);
        due.is("nothing is held", x.toss(2), -11);
        due.is("it is of another kind", x.toss(1), -12);
        due.is("the row is still there", x.copy(1, 0, 1, 0, 3), 3);
        due.is("the cell is still there", x.weight(0), 12);
    }

    /**
     * Promise 30: "The WEIGHT of the CELL on SHELF d". Promise 31: "The FAILURE of the CELL on SHELF d is thrown, and
     * caught": on every shelf, and it is there as before.
     */
    private void weightAndFailure() {
        ClockCourt x = new ClockCourt();
        for (int d = 0; d < 8; d++) {
            x.keeper(d % 4, 0);
        }
        for (int d = 0; d < 8; d++) {
            x.keep(d, 1, d);
        }
        for (int round = 0; round < 3; round++) {
            for (int d = 0; d < 8; d++) {
                due.is("toss(" + d + ")", x.toss(d), d % 4);
                due.is("weight(" + d + ")", x.weight(d), d + 1 + 100 + 5 + d);
            }
        }
    }

    /** Not promised: "Nothing is promised beyond the answers and state changes described above": asking has none. */
    private void askingChangesNothing() {
        List<String> before = Seen.of(Built.busy());
        ClockCourt x = Built.busy();
        x.value(3);
        x.either(0);
        x.ticks(0, 1);
        x.broken(1);
        x.walk();
        x.state(1, 0);
        x.shown(1, 4);
        x.never(1, 0);
        x.fewest(1);
        x.crossings();
        x.crossing(1, 1);
        x.count(7);
        x.look(4, 2);
        Due.element(x, 3, 0);
        x.weight(0);
        x.toss(0);
        due.is("asking changes nothing", before.equals(Seen.of(x)) ? 1 : 0, 1);
    }

    /** Promise 1: "No CELLS, BOUNDS, PROMISES.": however much another object has, before it and behind it. */
    private void objectsAreApart() {
        ClockCourt first = Built.full();
        ClockCourt x = new ClockCourt();
        List<String> alone = Seen.of(new ClockCourt());
        due.is("a new object beside a full one", alone.equals(Seen.of(x)) ? 1 : 0, 1);
        due.is("the full one", Seen.of(first).equals(Seen.of(Built.full())) ? 1 : 0, 1);
        ClockCourt a = new ClockCourt();
        ClockCourt b = new ClockCourt();
        for (int i = 0; i < 4; i++) {
            due.is("a: input", a.input(i), i);
            due.is("b: keeper", b.keeper(i, 1), i);
            due.is("a: moment", a.moment(15, 5, 0), 0);
            due.is("b: walk", b.walk(), 1);
            due.is("a: walk", a.walk(), 2 << i);
            due.is("b: value", b.value(i), 1);
            due.is("a: value", a.value(i), i % 2 == 0 ? 1 : 0);
            due.is("b: moments", b.count(4), 0);
        }
    }

    /** LANGUAGE.md, rule 13: "the same calls always give the same answers." */
    private void sameCallsSameAnswers() {
        due.is("busy", Seen.of(Built.busy()).equals(Seen.of(Built.busy())) ? 1 : 0, 1);
        due.is("full", Seen.of(Built.full()).equals(Seen.of(Built.full())) ? 1 : 0, 1);
    }
}
