/** Promises 21 to 23: crossings by their shape, and their mending. */
public final class CrossingTest {
    private final Due due = new Due();

    public static void main(String[] args) {
        CrossingTest t = new CrossingTest();
        t.which();
        t.twice();
        t.held();
        t.notHeld();
        t.stillFirst();
        t.meets();
        t.cellsBefore();
        t.mend();
        t.mendAgain();
        t.mendRefused();
        t.due.end();
    }

    private void kinds(String name, ClockCourt x, long... want) {
        due.is(name + ": crossings()", x.crossings(), want.length);
        for (int i = 0; i < want.length; i++) {
            due.is(name + ": crossing(" + i + ", 1)", x.crossing(i, 1), want[i]);
        }
    }

    /** Terms: "KEEPERS whose SOURCE hangs (itself, or by GATES) on a BIT of another CLOCK, by CELLS." */
    private void which() {
        ClockCourt x = new ClockCourt();
        x.input(0);
        x.keeper(1, 0);
        x.keeper(0, 0);
        x.gate(3, 0, 1, 1);
        x.gate(4, 3, 1, 2);
        kinds("themselves", x);
        x.connect(2, 3);
        kinds("by gates, of one clock", x);
        x.connect(2, 4);
        x.connect(1, 4);
        kinds("by gates", x, 4, 4);
        due.is("crossing(0, 0)", x.crossing(0, 0), 1);
        due.is("crossing(1, 0)", x.crossing(1, 0), 2);
        due.is("crossing(0, 4)", x.crossing(0, 4), 1 + 4);
        due.is("crossing(1, 4)", x.crossing(1, 4), 2);
        due.is("crossing(0, 2)", x.crossing(0, 2), 0);
        due.is("crossing(0, 3)", x.crossing(0, 3), 1);
        due.is("crossing(0, 5)", x.crossing(0, 5), -1);
        due.is("crossing(0, -1)", x.crossing(0, -1), -1);
        due.is("crossing(2, 0)", x.crossing(2, 0), -1);
        due.is("crossing(-1, 0)", x.crossing(-1, 0), -1);
        due.is("crossing(MIN, 0)", x.crossing(Integer.MIN_VALUE, 0), -1);
        // Hanging is a matter of shape: UNLIKE of a cell with itself is always 0.
        x.gate(2, 0, 0, 0);
        x.connect(1, 5);
        kinds("by shape", x, 4, 4);
        due.is("crossing(0, 4) by shape", x.crossing(0, 4), 1);
    }

    /** Input 0 of clock 0; keepers 1, 2, 3 of clock 1; keeper 4 of clock 2; 1 samples 0. */
    private static ClockCourt base() {
        ClockCourt x = new ClockCourt();
        x.input(0);
        x.keeper(1, 0);
        x.keeper(1, 0);
        x.keeper(1, 0);
        x.keeper(2, 0);
        x.connect(1, 0);
        return x;
    }

    /**
     * Terms: "1 TWICE: its SOURCE is a BIT of another CLOCK, and it is USED by one KEEPER alone, of its own CLOCK
     * (another one)."
     */
    private void twice() {
        ClockCourt x = base();
        kinds("not used", x, 3);
        x.connect(2, 1);
        kinds("used by one keeper", x, 1);
        due.is("TWICE isn't bad", x.crossing(0, 3), 0);
        due.is("TWICE alone doesn't meet", x.crossing(0, 2), 0);
        x.connect(3, 1);
        kinds("used by two keepers", x, 3);
        x.connect(3, 2);
        kinds("used by one keeper again", x, 1);
        x.connect(4, 1);
        kinds("used by a keeper of another clock too", x, 3, 3);
        due.is("crossing(1, 4)", x.crossing(1, 4), 2);
        x.connect(2, 2);
        kinds("used by a keeper of another clock", x, 3, 3);
        x.connect(4, 4);
        x.connect(2, 1);
        kinds("back again", x, 1);
        x.gate(3, 1, 0, 0);
        kinds("used by a gate too", x, 3);
        due.is("PLAIN is bad", x.crossing(0, 3), 1);
        ClockCourt y = base();
        y.gate(3, 0, 0, 0);
        y.connect(1, 5);
        y.connect(2, 1);
        kinds("a gate between", y, 4);
    }

    /** 0 data, 1 asking, of clock 0; 2, 3 sample the asking; 4 holds by PICK 5; all of clock 1. */
    private static ClockCourt handshake() {
        ClockCourt x = new ClockCourt();
        x.keeper(0, 0);
        x.keeper(0, 0);
        x.keeper(1, 0);
        x.keeper(1, 0);
        x.keeper(1, 0);
        x.connect(2, 1);
        x.connect(3, 2);
        x.gate(4, 3, 0, 4);
        x.connect(4, 5);
        return x;
    }

    /**
     * Terms: "2 HELD: its SOURCE is a PICK, y a BIT of another CLOCK, z itself, and x a KEEPER of its own CLOCK whose
     * SOURCE is a TWICE one."
     */
    private void held() {
        ClockCourt x = handshake();
        kinds("held", x, 1, 2);
        due.is("HELD: its keeper", x.crossing(1, 0), 4);
        due.is("HELD hangs on", x.crossing(1, 4), 1);
        due.is("HELD isn't bad", x.crossing(1, 3), 0);
        due.is("HELD doesn't meet", x.crossing(1, 2), 0);
        x.still(1, true);
        kinds("what it waits for is STILL, not TWICE", x, 0, 4);
        x.still(1, false);
        x.still(0, true);
        kinds("its data are still", x, 1, 0);
        x.still(0, false);
        x.still(4, true);
        kinds("a still bit of its own clock doesn't matter", x, 1, 2);
    }

    /** Terms: "4 GLITCH: the rest.": what HELD wants, the other way. */
    private void notHeld() {
        ClockCourt x = handshake();
        x.connect(4, x.gate(4, 3, 0, 3));
        kinds("z is another", x, 1, 4);
        x.connect(4, x.gate(4, 3, 4, 0));
        kinds("y and z turned round", x, 1, 4);
        x.connect(4, x.gate(4, x.gate(3, 3, 0, 0), 0, 4));
        kinds("x is a gate", x, 1, 4);
        x.connect(4, x.gate(4, 3, x.gate(3, 0, 0, 0), 4));
        kinds("y is a gate", x, 1, 4);
        x.connect(4, x.gate(4, x.input(1), 0, 4));
        kinds("x is an input", x, 1, 4);
        x.connect(4, x.gate(4, x.keeper(2, 0), 0, 4));
        kinds("x is of another clock", x, 1, 4);
        x.connect(4, 5);
        kinds("as before", x, 1, 2);
        x.connect(3, 1);
        kinds("x samples the asking itself", x, 3, 3, 4);
        ClockCourt y = handshake();
        y.gate(3, 2, 0, 0);
        kinds("x's source is PLAIN", y, 3, 4);
        ClockCourt z = handshake();
        z.connect(z.keeper(1, 0), 5);
        kinds("another keeper of the same PICK", z, 1, 2, 4);
    }

    /** Terms: "0 STILL: all BITS of other CLOCKS on which its SOURCE hangs were told to be still." */
    private void stillFirst() {
        ClockCourt x = new ClockCourt();
        x.input(0);
        x.input(2);
        x.gate(1, 0, 1, 0);
        x.keeper(1, 0);
        x.connect(3, 2);
        x.keeper(1, 0);
        x.connect(4, 0);
        kinds("not still", x, 4, 3);
        x.still(0, true);
        kinds("one is still", x, 4, 0);
        due.is("STILL isn't bad", x.crossing(1, 3), 0);
        x.still(1, true);
        kinds("both are still", x, 0, 0);
        due.is("STILL hangs on both", x.crossing(0, 4), 3);
        x.still(0, false);
        kinds("the other is still", x, 4, 3);
    }

    /** Terms: "MEETS: two TWICE ones of one CLOCK with one SOURCE. BAD are KINDS 3, 4 and those that MEET." */
    private void meets() {
        ClockCourt x = base();
        x.connect(2, 1);
        x.keeper(1, 0);
        x.connect(3, 0);
        x.connect(5, 3);
        kinds("two of one clock", x, 1, 1);
        due.is("the first meets", x.crossing(0, 2), 1);
        due.is("the second meets", x.crossing(1, 2), 1);
        due.is("the first is bad", x.crossing(0, 3), 1);
        due.is("the second is bad", x.crossing(1, 3), 1);
        x.keeper(2, 0);
        x.connect(4, 0);
        x.connect(6, 4);
        kinds("a third, of another clock", x, 1, 1, 1);
        due.is("the third doesn't meet", x.crossing(2, 2), 0);
        due.is("the third isn't bad", x.crossing(2, 3), 0);
        x.still(0, true);
        due.is("STILL ones don't meet", x.crossing(0, 2), 0);
        x.still(0, false);
        x.gate(3, 3, 0, 0);
        kinds("the second is PLAIN", x, 1, 3, 1);
        due.is("a PLAIN one isn't met", x.crossing(0, 2), 0);
        due.is("a PLAIN one doesn't meet", x.crossing(1, 2), 0);
        ClockCourt y = base();
        y.connect(2, 1);
        y.connect(y.keeper(1, 0), 3);
        y.connect(3, y.input(0));
        kinds("two sources", y, 1, 1);
        due.is("two sources don't meet", y.crossing(0, 2), 0);
    }

    /** Terms: "USED is a KEEPER by GATES that have it, and KEEPERS whose SOURCE it is.": of the first cells too. */
    private void cellsBefore() {
        ClockCourt x = new ClockCourt();
        x.keeper(1, 0);
        x.keeper(1, 0);
        x.input(0);
        x.keeper(1, 0);
        x.keeper(1, 0);
        x.connect(0, 2);
        x.connect(1, 0);
        x.connect(3, 2);
        x.connect(4, 3);
        kinds("cell 0 crosses", x, 1, 1);
        due.is("crossing(0, 0): cell 0", x.crossing(0, 0), 0);
        due.is("cell 3 meets cell 0", x.crossing(1, 2), 1);
        ClockCourt y = new ClockCourt();
        y.keeper(1, 0);
        y.keeper(1, 0);
        y.input(0);
        y.connect(1, 2);
        y.connect(0, 1);
        kinds("used by cell 0", y, 1);
        y.gate(4, 2, 1, 2);
        kinds("used as y", y, 3);
        due.is("mend(0): used as y, and by cell 0", y.mend(0), 4);
        due.is("cell 0 has the new source", y.look(0, 2), 4);
        due.is("PICK has the new y", y.look(3, 3), 4);
        ClockCourt z = base();
        z.connect(2, 1);
        z.gate(4, 0, 0, 1);
        kinds("used as z", z, 3);
        due.is("mend of a plain keeper at cell 0", mendedFirst(), 2);
    }

    private static int mendedFirst() {
        ClockCourt x = new ClockCourt();
        x.keeper(1, 0);
        x.input(0);
        x.connect(0, 1);
        return x.mend(0);
    }

    /**
     * Promise 23: "it takes its place in all GATES and as SOURCE of all other KEEPERS: its CELL. GATES keep their
     * numbers, though it comes behind them."
     */
    private void mend() {
        ClockCourt x = new ClockCourt();
        x.input(0);
        x.keeper(1, 1);
        x.connect(1, 0);
        x.gate(3, 1, 0, 0);
        x.gate(4, 1, 1, 1);
        x.keeper(1, 0);
        x.connect(4, 1);
        x.keeper(0, 0);
        x.connect(5, 1);
        x.gate(0, 2, 0, 0);
        x.promise(0, 1, 0);
        x.moment(1, 1, 0);
        x.walk();
        kinds("before", x, 3, 3);
        due.is("mend(0)", x.mend(0), 7);
        due.is("the run is at the beginning", x.count(4), 0);
        due.is("the walk is gone", x.count(5), 0);
        long[][] looks = {
            {5, 0, -2, -2, -2}, {6, 1, 0, -2, -2}, {3, -2, 7, -2, -2}, {4, -2, 7, 7, 7},
            {6, 1, 7, -2, -2}, {6, 0, 7, -2, -2}, {0, -2, 2, 0, -2}, {6, 1, 1, -2, -2}};
        for (int cell = 0; cell < looks.length; cell++) {
            for (int what = 0; what < 5; what++) {
                due.is("mended: look(" + cell + ", " + what + ")", x.look(cell, what), looks[cell][what]);
            }
        }
        kinds("behind", x, 1, 3);
        due.is("crossing(1, 4)", x.crossing(1, 4), 1 << 7);
        due.is("its value at first", x.value(7), 1);
        due.is("the gate behind it", x.value(2), 0);
        x.moment(2, 0, 0);
        due.is("the promise is still of the old one", x.broken(0), 1);
        due.is("value(1)", x.value(1), 0);
        due.is("value(7) a moment later", x.value(7), 1);
        x.moment(2, 0, 0);
        due.is("value(7) then", x.value(7), 0);
        due.is("value(2) then", x.value(2), 1);
        due.is("value(3) then", x.value(3), 0);
    }

    /** Promise 23: "-3: it isn't PLAIN.": what was mended is TWICE. */
    private void mendAgain() {
        ClockCourt x = base();
        x.gate(3, 1, 0, 0);
        x.gate(2, 5, 1, 0);
        x.connect(4, 6);
        kinds("before both", x, 3, 4);
        due.is("mend(1)", x.mend(1), -3);
        due.is("mend(0)", x.mend(0), 7);
        kinds("behind one", x, 1, 4);
        due.is("mend(0) again", x.mend(0), -3);
        due.is("what the GLITCH hangs on", x.crossing(1, 4), 1 << 7);
        due.is("values by gates", x.value(6), 1);
    }

    /** Promise 23: "-1; -2: there are 24 CELLS, or 10 BITS; -3: it isn't PLAIN." */
    private void mendRefused() {
        ClockCourt x = base();
        due.is("mend(-1)", x.mend(-1), -1);
        due.is("mend(1)", x.mend(1), -1);
        x.connect(2, 1);
        due.is("mend of TWICE", x.mend(0), -3);
        for (int i = 0; i < 5; i++) {
            x.input(3);
        }
        due.is("10 bits, and not PLAIN", x.mend(0), -2);
        due.is("10 bits, no such crossing", x.mend(1), -1);
        x.connect(2, 2);
        due.is("10 bits, PLAIN", x.mend(0), -2);
        due.is("count(0)", x.count(0), 10);
        due.is("look(1, 2)", x.look(1, 2), 0);
        ClockCourt y = base();
        for (int i = 5; i < 24; i++) {
            y.gate(3, 0, 0, 0);
        }
        y.moment(1, 1, 0);
        due.is("24 cells, PLAIN", y.mend(0), -2);
        due.is("the run stays", y.count(4), 1);
    }
}
