/** Sentences of the document that name an edge: promises 21 to 23, and the Terms on CROSSINGS. */
public final class EdgeCrossingTest {
    private final Due due = new Due();
    private final Refused refused = new Refused(due);

    public static void main(String[] args) {
        EdgeCrossingTest t = new EdgeCrossingTest();
        t.noneAndAll();
        t.hangs();
        t.onWhichItHangs();
        t.crossingNumbers();
        t.allBitsAreStill();
        t.stillComesFirst();
        t.usedByOneAlone();
        t.usedByGates();
        t.usedByTheLastAndTheFirstCell();
        t.held();
        t.heldByAnother();
        t.plainOrGlitch();
        t.meets();
        t.bad();
        t.mendWhatIsPlain();
        t.mendAllPlaces();
        t.mendForTheFirstCell();
        t.mendTheLastBit();
        t.mendTheLastCell();
        t.mendRefused();
        t.mendRefusedByOneOfTwo();
        t.due.end();
    }

    private void kinds(String name, ClockCourt x, long... want) {
        due.is(name + ": crossings()", x.crossings(), want.length);
        for (int i = 0; i < want.length; i++) {
            due.is(name + ": crossing(" + i + ", 1)", x.crossing(i, 1), want[i]);
        }
    }

    /** Promise 21: "How many CROSSINGS there are.": none; one of one clock; ten, the most that can be, by cells. */
    private void noneAndAll() {
        due.is("no cells", new ClockCourt().crossings(), 0);
        ClockCourt x = new ClockCourt();
        for (int i = 0; i < 10; i++) {
            x.keeper(i % 2, 0);
        }
        due.is("each hangs on itself", x.crossings(), 0);
        for (int i = 0; i < 8; i++) {
            x.connect(i, i + 2);
        }
        due.is("each hangs on one of its own clock", x.crossings(), 0);
        for (int i = 0; i < 10; i++) {
            x.connect(i, (i + 1) % 10);
        }
        due.is("each hangs on one of the other clock", x.crossings(), 10);
        for (int i = 0; i < 10; i++) {
            due.is("crossing(" + i + ", 0)", x.crossing(i, 0), i);
            due.is("crossing(" + i + ", 1)", x.crossing(i, 1), 3);
            due.is("crossing(" + i + ", 4)", x.crossing(i, 4), 1 << (i + 1) % 10);
        }
        due.is("crossing(10, 0)", x.crossing(10, 0), -1);
    }

    /** Terms: "KEEPERS whose SOURCE hangs (itself, or by GATES) on a BIT of another CLOCK": inputs are none. */
    private void hangs() {
        ClockCourt x = new ClockCourt();
        x.input(0);
        x.keeper(1, 0);
        for (int i = 2; i < 24; i++) {
            x.gate(3, i == 2 ? 0 : i - 1, 1, 1);
        }
        kinds("itself", x);
        x.connect(1, 0);
        kinds("by no gate", x, 3);
        for (int source = 2; source < 24; source++) {
            x.connect(1, source);
            kinds("by gates", x, 4);
            due.is("crossing(0, 4)", x.crossing(0, 4), 1);
        }
        ClockCourt y = new ClockCourt();
        y.input(0);
        y.keeper(1, 0);
        y.gate(3, 1, 0, 0);
        y.gate(2, 0, 0, 0);
        y.connect(1, 2);
        kinds("NOT of its own clock, though y was told", y);
        y.connect(1, 3);
        kinds("UNLIKE of one bit, which has one value alone", y, 4);
    }

    /** Promise 22: "4 the BITS of other CLOCKS on which it hangs, as CELLS' bits": nine of them; the last cell. */
    private void onWhichItHangs() {
        ClockCourt x = new ClockCourt();
        x.keeper(0, 0);
        int or = 0;
        for (int i = 1; i < 10; i++) {
            x.input(1 + i % 3);
        }
        for (int i = 1; i < 10; i++) {
            or = x.gate(1, or, i, 0);
            x.connect(0, or);
            due.is("crossing(0, 4) of " + i, x.crossing(0, 4), (2 << i) - 2);
        }
        ClockCourt y = new ClockCourt();
        y.keeper(0, 0);
        for (int i = 1; i < 23; i++) {
            y.gate(3, 0, 0, 0);
        }
        y.input(3);
        y.connect(0, 23);
        kinds("the last cell", y, 3);
        due.is("crossing(0, 4) of the last cell", y.crossing(0, 4), 1 << 23);
    }

    /** Promise 22: "Of CROSSING i: 0 its KEEPER [..] 4 the BITS of other CLOCKS on which it hangs [..] -1." */
    private void crossingNumbers() {
        for (int what = 0; what < 5; what++) {
            int w = what;
            refused.outside("crossing(#, " + w + ")", 0, 1, (x, n) -> x.crossing(n, w), -1);
        }
        for (int i = 0; i < 2; i++) {
            int c = i;
            refused.outside("crossing(" + c + ", #)", 0, 4, (x, n) -> x.crossing(c, n), -1);
        }
        ClockCourt y = Built.busy();
        long[][] want = {{1, 1, 0, 0, 1}, {3, 3, 0, 1, 1}};
        for (int i = 0; i < 2; i++) {
            for (int what = 0; what < 5; what++) {
                due.is("crossing(" + i + ", " + what + ")", y.crossing(i, what), want[i][what]);
            }
        }
    }

    /** Terms: "0 STILL: all BITS of other CLOCKS on which its SOURCE hangs were told to be still.": all but one. */
    private void allBitsAreStill() {
        ClockCourt x = new ClockCourt();
        x.keeper(0, 0);
        int or = 0;
        for (int i = 1; i < 9; i++) {
            x.input(1 + i % 3);
        }
        x.input(0);
        for (int i = 1; i < 10; i++) {
            or = x.gate(1, or, i, 0);
        }
        x.connect(0, or);
        for (int i = 1; i < 9; i++) {
            kinds("not all eight", x, 4);
            x.still(i, true);
        }
        kinds("all eight, but none of its own clock", x, 0);
        due.is("STILL isn't bad", x.crossing(0, 3), 0);
        for (int i = 1; i < 9; i++) {
            x.still(i, false);
            kinds("all but " + i, x, 4);
            x.still(i, true);
        }
        kinds("all eight again", x, 0);
        x.still(0, true);
        x.still(9, true);
        kinds("those of its own clock too", x, 0);
    }

    /** Terms: "KINDS, the first that holds": STILL ahead of TWICE, HELD, PLAIN and GLITCH. */
    private void stillComesFirst() {
        ClockCourt x = oneOfEach();
        kinds("none is still", x, 1, 2, 3, 4);
        x.still(0, true);
        kinds("the data are still", x, 1, 0, 0, 0);
        x.still(1, true);
        kinds("all are still", x, 0, 0, 0, 0);
        for (int i = 0; i < 4; i++) {
            due.is("STILL doesn't meet", x.crossing(i, 2), 0);
            due.is("STILL isn't bad", x.crossing(i, 3), 0);
        }
        x.still(0, false);
        kinds("the asking is still: no TWICE, so no HELD", x, 0, 4, 3, 4);
    }

    /** Input 0 of clock 0; keepers 1, 2, 3 of clock 1; keeper 4 of clock 2; input 5 of clock 1; 1 samples 0. */
    private static ClockCourt sampler() {
        ClockCourt x = new ClockCourt();
        x.input(0);
        x.keeper(1, 0);
        x.keeper(1, 0);
        x.keeper(1, 0);
        x.keeper(2, 0);
        x.input(1);
        x.connect(1, 0);
        return x;
    }

    /** Terms: "1 TWICE: its SOURCE is a BIT of another CLOCK, and it is USED by one KEEPER alone, of its own CLOCK". */
    private void usedByOneAlone() {
        ClockCourt x = sampler();
        kinds("used by none", x, 3);
        x.connect(2, 1);
        kinds("used by one", x, 1);
        x.connect(3, 1);
        kinds("used by two", x, 3);
        x.connect(2, 2);
        kinds("used by the other one", x, 1);
        x.connect(3, 3);
        kinds("used by none again", x, 3);
        x.connect(4, 1);
        kinds("used by one of another clock", x, 3, 3);
        x.connect(2, 1);
        kinds("and by one of its own", x, 3, 3);
        x.connect(4, 2);
        kinds("its user is used by another clock", x, 1, 3);
        x.connect(1, 4);
        kinds("its source is a keeper of another clock", x, 1, 3);
        x.connect(1, 5);
        kinds("its source is of its own clock", x, 3);
        x.connect(1, 1);
        kinds("its source is itself", x, 3);
    }

    /** Terms: "USED is a KEEPER by GATES that have it, and KEEPERS whose SOURCE it is.": as x, y or z. */
    private void usedByGates() {
        int[][] gates = {
            {3, 1, 0, 0}, {0, 1, 0, 0}, {0, 0, 1, 0}, {4, 1, 0, 0}, {4, 0, 1, 0}, {4, 0, 0, 1}, {4, 1, 1, 1}};
        for (int[] g : gates) {
            ClockCourt x = sampler();
            x.connect(2, 1);
            x.gate(g[0], g[1], g[2], g[3]);
            kinds("used by a gate too", x, 3);
            x.connect(2, 6);
            due.is("used by a gate alone", x.crossing(0, 1), 3);
        }
        for (int kind = 0; kind < 4; kind++) {
            ClockCourt y = sampler();
            y.connect(2, 1);
            y.gate(kind, 0, kind == 3 ? 1 : 0, 1);
            kinds("what a gate has not isn't used by it", y, 1);
        }
    }

    /** Terms: "USED is a KEEPER by GATES that have it, and KEEPERS": by cells 0 and 23. */
    private void usedByTheLastAndTheFirstCell() {
        ClockCourt x = new ClockCourt();
        x.keeper(1, 0);
        x.keeper(1, 0);
        x.input(0);
        x.connect(1, 2);
        x.connect(0, 1);
        kinds("by cell 0", x, 1);
        for (int i = 3; i < 23; i++) {
            x.gate(3, 2, 0, 0);
        }
        kinds("by cell 0 still", x, 1);
        x.gate(1, 2, 1, 0);
        kinds("by cell 23 too", x, 3);
        ClockCourt y = new ClockCourt();
        y.keeper(1, 0);
        y.input(0);
        for (int i = 2; i < 23; i++) {
            y.gate(3, 1, 0, 0);
        }
        y.keeper(1, 0);
        y.connect(0, 1);
        kinds("by none", y, 3);
        y.connect(23, 0);
        kinds("by cell 23 alone", y, 1);
        y.connect(0, 23);
        y.connect(23, 1);
        kinds("the last cell, by cell 0 alone", y, 1);
        due.is("crossing(0, 0)", y.crossing(0, 0), 23);
    }

    /** 0 data, 1 asking, of clock 0; 2, 3 sample the asking; 4 holds by PICK 5; all of clock 1. */
    private static ClockCourt handshake() {
        ClockCourt x = new ClockCourt();
        x.keeper(0, 0);
        x.keeper(0, 0);
        x.keeper(1, 0);
        x.keeper(1, 0);
        x.keeper(1, 0);
        x.connect(2, 1);
        x.connect(3, 2);
        x.gate(4, 3, 0, 4);
        x.connect(4, 5);
        return x;
    }

    /** TWICE 2, HELD 4, PLAIN 6, GLITCH 7, of nine cells. */
    private static ClockCourt oneOfEach() {
        ClockCourt x = handshake();
        x.connect(x.keeper(1, 0), 0);
        x.connect(x.keeper(1, 0), x.gate(3, 0, 0, 0));
        return x;
    }

    /**
     * Terms: "2 HELD: its SOURCE is a PICK, y a BIT of another CLOCK, z itself, and x a KEEPER of its own CLOCK whose
     * SOURCE is a TWICE one.": each of these the other way.
     */
    private void held() {
        kinds("held", handshake(), 1, 2);
        ClockCourt x = handshake();
        x.connect(4, x.gate(4, 3, 0, 3));
        kinds("z is another", x, 1, 4);
        x.connect(4, x.gate(4, 3, 2, 4));
        due.is("y is of its own clock: no crossing", x.crossings(), 1);
        x.connect(4, x.gate(4, 1, 0, 4));
        kinds("x is of another clock", x, 3, 4);
        ClockCourt y = handshake();
        y.connect(4, y.gate(4, 3, y.gate(3, 0, 0, 0), 4));
        kinds("y is a gate", y, 1, 4);
        y.connect(4, y.gate(4, y.gate(3, 3, 0, 0), 0, 4));
        kinds("x is a gate", y, 1, 4);
        y.connect(4, y.gate(4, y.input(1), 0, 4));
        kinds("x is an input", y, 1, 4);
        y.connect(4, y.gate(4, 4, 0, 4));
        kinds("x is itself", y, 1, 4);
        y.connect(4, 5);
        kinds("as before", y, 1, 2);
        y.connect(3, 1);
        kinds("x's source is of another clock", y, 3, 3, 4);
        y.connect(3, 2);
        y.connect(2, 3);
        kinds("x's source is no crossing", y, 4);
        ClockCourt z = handshake();
        z.connect(4, z.gate(1, 3, 0, 4));
        kinds("an OR", z, 1, 4);
        z.connect(4, 5);
        z.gate(3, 2, 0, 0);
        kinds("x's source is PLAIN", z, 3, 4);
        ClockCourt round = handshake();
        round.connect(3, 4);
        kinds("x's source is the one that would be held", round, 3, 4);
    }

    /** Terms: "2 HELD": two that wait for one TWICE; the asking may be of a third clock; TWICE that MEET are TWICE. */
    private void heldByAnother() {
        ClockCourt x = handshake();
        x.keeper(1, 0);
        x.connect(6, x.gate(4, 3, 1, 6));
        kinds("two wait", x, 1, 2, 2);
        x.connect(2, x.input(3));
        kinds("for a third clock", x, 1, 2, 2);
        ClockCourt y = handshake();
        y.keeper(1, 0);
        y.keeper(1, 0);
        y.connect(6, 1);
        y.connect(7, 6);
        kinds("TWICE ones that meet", y, 1, 2, 1);
        due.is("they are bad", y.crossing(0, 3), 1);
        due.is("HELD isn't", y.crossing(1, 3), 0);
    }

    /** Terms: "3 PLAIN: its SOURCE is a BIT of another CLOCK. 4 GLITCH: the rest." */
    private void plainOrGlitch() {
        ClockCourt x = sampler();
        kinds("an input", x, 3);
        x.connect(1, 4);
        kinds("a keeper", x, 3);
        x.connect(1, x.gate(0, 0, 0, 0));
        kinds("a gate of one bit", x, 4);
        x.connect(1, x.gate(2, 0, 5, 0));
        kinds("a gate of both clocks", x, 4);
    }

    /** Terms: "MEETS: two TWICE ones of one CLOCK with one SOURCE.": one alone, two, three; all others not. */
    private void meets() {
        ClockCourt x = new ClockCourt();
        x.input(0);
        x.input(0);
        for (int i = 0; i < 3; i++) {
            x.keeper(1, 0);
            x.keeper(1, 0);
            x.connect(3 + 2 * i, 2 + 2 * i);
        }
        x.connect(2, 0);
        meetsAre("one alone", x, 0);
        x.connect(4, 1);
        meetsAre("two sources", x, 0, 0);
        x.connect(4, 0);
        meetsAre("two", x, 1, 1);
        x.connect(6, 1);
        meetsAre("two and another", x, 1, 1, 0);
        x.connect(6, 0);
        meetsAre("three", x, 1, 1, 1);
        x.gate(3, 2, 0, 0);
        kinds("the first is PLAIN", x, 3, 1, 1);
        meetsAre("the other two", x, 0, 1, 1);
        x.gate(3, 4, 0, 0);
        kinds("the second too", x, 3, 3, 1);
        meetsAre("one alone again", x, 0, 0, 0);
        ClockCourt y = sampler();
        y.connect(2, 1);
        y.connect(4, 0);
        y.connect(y.keeper(2, 0), 4);
        kinds("two clocks", y, 1, 1);
        meetsAre("two clocks", y, 0, 0);
        ClockCourt z = new ClockCourt();
        for (int i = 0; i < 4; i++) {
            z.keeper(1, 0);
        }
        z.input(0);
        z.connect(0, 4);
        z.connect(1, 0);
        z.connect(3, 4);
        z.connect(2, 3);
        meetsAre("the first cell and another", z, 1, 1);
    }

    private void meetsAre(String name, ClockCourt x, long... want) {
        due.is(name + ": crossings()", x.crossings(), want.length);
        for (int i = 0; i < want.length; i++) {
            due.is(name + ": crossing(" + i + ", 2)", x.crossing(i, 2), want[i]);
            long bad = x.crossing(i, 1) >= 3 ? 1 : want[i];
            due.is(name + ": crossing(" + i + ", 3)", x.crossing(i, 3), bad);
        }
    }

    /** Terms: "BAD are KINDS 3, 4 and those that MEET." */
    private void bad() {
        ClockCourt x = oneOfEach();
        x.connect(x.keeper(2, 0), x.input(3));
        x.still(x.count(0) - 1, true);
        kinds("one of each", x, 1, 2, 3, 4, 0);
        long[] want = {0, 0, 1, 1, 0};
        for (int i = 0; i < 5; i++) {
            due.is("crossing(" + i + ", 3)", x.crossing(i, 3), want[i]);
        }
    }

    /** Promise 23: "CROSSING i, which is PLAIN, is mended [..] -3: it isn't PLAIN." */
    private void mendWhatIsPlain() {
        long[] want = {-3, -3, 9, -3};
        for (int i = 0; i < 4; i++) {
            ClockCourt x = oneOfEach();
            due.is("mend(" + i + ")", x.mend(i), want[i]);
            due.is("count(0)", x.count(0), i == 2 ? 10 : 9);
        }
        refused.is("mend(0): TWICE", x -> x.mend(0), -3);
        due.is("mend(1): PLAIN", Built.busy().mend(1), 7);
        ClockCourt y = Built.busy();
        y.still(0, true);
        due.is("mend(1): STILL", y.mend(1), -3);
        due.is("the run stays", y.count(4), 5);
        y.still(0, false);
        due.is("mend(1): PLAIN again", y.mend(1), 7);
        due.is("mend(1): TWICE then", y.mend(1), -3);
    }

    /**
     * Promise 23: "a KEEPER comes, of its CLOCK and value at first, whose SOURCE it is; it takes its place in all
     * GATES and as SOURCE of all other KEEPERS: its CELL. GATES keep their numbers, though it comes behind them."
     */
    private void mendAllPlaces() {
        for (int first = 0; first < 2; first++) {
            ClockCourt x = new ClockCourt();
            x.keeper(2, first);
            x.input(3);
            x.gate(4, 0, 0, 0);
            x.gate(3, 0, 0, 0);
            x.gate(0, 1, 0, 0);
            x.gate(2, 2, 3, 0);
            x.keeper(1, 0);
            x.connect(6, 0);
            x.keeper(2, 0);
            x.connect(7, 0);
            x.connect(0, 1);
            x.promise(0, 0, 0);
            x.still(0, true);
            due.is("mend(0)", x.mend(0), 8);
            long[][] want = {
                {6, 2, 1, -2, -2}, {5, 3, -2, -2, -2}, {4, -2, 8, 8, 8}, {3, -2, 8, -2, -2}, {0, -2, 1, 8, -2},
                {2, -2, 2, 3, -2}, {6, 1, 8, -2, -2}, {6, 2, 8, -2, -2}, {6, 2, 0, -2, -2}};
            for (int cell = 0; cell < want.length; cell++) {
                for (int what = 0; what < 5; what++) {
                    due.is("look(" + cell + ", " + what + ")", x.look(cell, what), want[cell][what]);
                }
            }
            due.is("its value at first", x.value(8), first);
            due.is("the PICK's", x.value(2), first);
            due.is("the NOT's", x.value(3), 1 - first);
            due.is("the gate of gates'", x.value(5), 1);
            due.is("the promise is of the old one", x.broken(0), first == 1 ? -2 : 0);
            due.is("the old one is still", x.still(0, true), 1);
            due.is("the new one isn't", x.still(8, true), 0);
            due.is("both of the clock sample", x.moment(4, 0, 0), 0);
            due.is("the new one has what the old one was", x.value(8), first);
            due.is("the old one has what the input was", x.value(0), 0);
        }
    }

    /**
     * Promise 23: "of its CLOCK and value at first", "in all GATES and as SOURCE of all other KEEPERS": of the first
     * cell too; "A GATE's value is always that of its CELLS." (Terms), behind mending too.
     */
    private void mendForTheFirstCell() {
        for (int first = 0; first < 2; first++) {
            ClockCourt x = new ClockCourt();
            x.keeper(3, 1 - first);
            x.input(2);
            x.keeper(3, first);
            x.keeper(3, 1 - first);
            x.connect(0, 2);
            x.connect(3, 2);
            x.connect(2, 1);
            for (int kind = 0; kind < 5; kind++) {
                x.gate(kind, 2, 2, 2);
            }
            kinds("used by two", x, 3);
            due.is("mend(0)", x.mend(0), 9);
            due.is("the first cell's source", x.look(0, 2), 9);
            due.is("value(9) at first", x.value(9), first);
            x.moment(4, 1, 0);
            x.moment(8, 0, 0);
            due.is("the old one samples", x.value(2), 1);
            due.is("the new one has what the old one was", x.value(9), first);
            due.is("the first cell has what the new one was", x.value(0), first);
            gatesOf(x, first);
            x.moment(8, 0, 0);
            due.is("the new one samples", x.value(9), 1);
            gatesOf(x, 1);
        }
    }

    private void gatesOf(ClockCourt x, int value) {
        long[] want = {value, value, 0, 1 - value, value};
        for (int kind = 0; kind < 5; kind++) {
            due.is("gate " + kind + " of " + value, x.value(4 + kind), want[kind]);
        }
    }

    /** Input 0, keeper 1 that samples it, and other inputs. */
    private static ClockCourt bits(int n) {
        ClockCourt x = new ClockCourt();
        x.input(0);
        x.keeper(1, 0);
        x.connect(1, 0);
        for (int i = 2; i < n; i++) {
            x.input(2);
        }
        return x;
    }

    /** Promise 23: "-2: there are 24 CELLS, or 10 BITS": of nine bits the tenth comes. */
    private void mendTheLastBit() {
        ClockCourt x = bits(9);
        due.is("mend(0) of nine bits", x.mend(0), 9);
        due.is("count(1)", x.count(1), 10);
        due.is("its source", x.look(9, 2), 1);
        refused.is("mend(0) of ten bits", "ten bits", () -> bits(10), y -> y.mend(0), -2);
    }

    /** The first gate and the last one have keeper 1, each other one has the gate before it. */
    private static ClockCourt cells(int n) {
        ClockCourt x = bits(2);
        for (int i = 2; i < n; i++) {
            x.gate(3, i == n - 1 ? 1 : i - 1, 0, 0);
        }
        return x;
    }

    /** Promise 23: "-2: there are 24 CELLS, or 10 BITS": of 23 cells the 24th comes. */
    private void mendTheLastCell() {
        ClockCourt x = cells(23);
        due.is("mend(0) of 23 cells", x.mend(0), 23);
        due.is("count(0)", x.count(0), 24);
        due.is("the first gate's x", x.look(2, 2), 23);
        due.is("the second gate's x", x.look(3, 2), 2);
        due.is("the last gate's x", x.look(22, 2), 23);
        due.is("value(22)", x.value(22), 1);
        refused.is("mend(0) of 24 cells", "24 cells", () -> cells(24), y -> y.mend(0), -2);
    }

    /**
     * Promise 23: "-1; -2: there are 24 CELLS, or 10 BITS; -3: it isn't PLAIN." Terms: "Answers of several refusals
     * are the first one here".
     */
    private void mendRefused() {
        refused.outside("mend(#)", 0, 1, (x, n) -> x.mend(n), -1);
        refused.isOfFull("mend(0): PLAIN", x -> x.mend(0), -2);
        refused.isOfFull("mend(1): TWICE too", x -> x.mend(1), -2);
        refused.isOfFull("mend(2): no such one", x -> x.mend(2), -1);
        refused.isOfFull("mend(-1): no such one", x -> x.mend(-1), -1);
    }

    /** Promise 23: "24 CELLS, or 10 BITS": either alone, of a crossing that isn't PLAIN. */
    private void mendRefusedByOneOfTwo() {
        ClockCourt x = bits(10);
        x.connect(1, x.gate(3, 0, 0, 0));
        due.is("ten bits, GLITCH", x.mend(0), -2);
        due.is("ten bits, none such", x.mend(1), -1);
        ClockCourt y = cells(24);
        y.connect(1, 2);
        due.is("24 cells, none such", y.mend(0), -1);
        y.connect(1, 0);
        y.still(0, true);
        due.is("24 cells, STILL", y.mend(0), -2);
    }
}
