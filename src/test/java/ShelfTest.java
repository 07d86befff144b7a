/** Promises 26 to 31: shelves. */
public final class ShelfTest {
    private static final int MAX = Integer.MAX_VALUE;
    private static final int MIN = Integer.MIN_VALUE;

    private final Due due = new Due();

    public static void main(String[] args) {
        ShelfTest t = new ShelfTest();
        t.keep();
        t.asItWasThen();
        t.make();
        t.elements();
        t.copy();
        t.copyRefused();
        t.weights();
        t.tosses();
        t.due.end();
    }

    /** Input 0 of clock 3, NOT 1 of it, keeper 2 of clock 1 that samples the NOT, PICK 3, AND 4. */
    private static ClockCourt net() {
        ClockCourt x = new ClockCourt();
        x.input(3);
        x.gate(3, 0, 0, 0);
        x.keeper(1, 1);
        x.connect(2, 1);
        x.gate(4, 0, 1, 2);
        x.gate(0, 1, 2, 0);
        return x;
    }

    private void row(String name, ClockCourt x, int d, long... want) {
        for (int i = 0; i < want.length; i++) {
            due.is(name + ": element(" + d + ", " + i + ")", Due.element(x, d, i), want[i]);
        }
        due.is(name + ": element behind the last", Due.element(x, d, want.length), Due.ILLEGAL_STATE);
    }

    /**
     * Promise 26: "what = 0 nothing; 1 CELL k; 3 a ROW of booleans: the values of all CELLS in THE RUN; 4 a ROW of
     * ints: the CLOCKS of its MOMENTS, as sets: 0. -1."
     */
    private void keep() {
        ClockCourt x = net();
        due.is("keep(-1, 0, 0)", x.keep(-1, 0, 0), -1);
        due.is("keep(8, 0, 0)", x.keep(8, 0, 0), -1);
        due.is("keep(0, 2, 0)", x.keep(0, 2, 0), -1);
        due.is("keep(0, 5, 0)", x.keep(0, 5, 0), -1);
        due.is("keep(0, -1, 0)", x.keep(0, -1, 0), -1);
        due.is("keep(0, 1, 5)", x.keep(0, 1, 5), -1);
        due.is("keep(0, 1, -1)", x.keep(0, 1, -1), -1);
        due.is("weight(0): nothing", x.weight(0), -11);
        due.is("keep(0, 1, 0)", x.keep(0, 1, 0), 0);
        due.is("weight(0)", x.weight(0), 101);
        due.is("keep(0, 1, 9)", x.keep(0, 1, 9), -1);
        due.is("weight(0) behind a refused one", x.weight(0), 101);
        due.is("keep(0, 0, MIN)", x.keep(0, 0, MIN), 0);
        due.is("weight(0) behind nothing", x.weight(0), -11);
        due.is("keep(7, 3, -9)", x.keep(7, 3, -9), 0);
        row("values at the beginning", x, 7, 0, 1, 1, 1, 1);
        due.is("keep(6, 4, -9)", x.keep(6, 4, -9), 0);
        row("clocks at the beginning", x, 6);
        x.moment(10, 1, 0);
        x.moment(15, 1, 0);
        x.keep(5, 3, 0);
        x.keep(4, 4, 0);
        row("values behind two moments", x, 5, 1, 0, 0, 0, 0);
        row("clocks of two moments", x, 4, 10, 15);
        row("values as they were", x, 7, 0, 1, 1, 1, 1);
        row("clocks as they were", x, 6);
        ClockCourt y = new ClockCourt();
        due.is("keep(0, 3, 0) without cells", y.keep(0, 3, 0), 0);
        row("values of no cells", y, 0);
        due.is("a row of nothing is held", y.weight(0), -12);
        due.is("it can be copied", y.copy(0, 0, 0, 0, 0), 0);
    }

    /** Terms: "a CELL (as it is then)". */
    private void asItWasThen() {
        ClockCourt x = net();
        x.keep(0, 1, 2);
        x.connect(2, 4);
        x.keep(1, 1, 2);
        due.is("weight of the source then", x.weight(0), 3 + 100 + 5 + 1);
        due.is("weight of the source now", x.weight(1), 3 + 100 + 5 + 4);
    }

    /** Promise 27: "(what 3, 4; n up to 60): 0. -1; -14: n is below 0." */
    private void make() {
        ClockCourt x = new ClockCourt();
        due.is("make(-1, 3, 1)", x.make(-1, 3, 1), -1);
        due.is("make(8, 3, 1)", x.make(8, 3, 1), -1);
        due.is("make(8, 3, -1)", x.make(8, 3, -1), -1);
        due.is("make(0, 2, 1)", x.make(0, 2, 1), -1);
        due.is("make(0, 5, -1)", x.make(0, 5, -1), -1);
        due.is("make(0, 1, 1)", x.make(0, 1, 1), -1);
        due.is("make(0, 3, 61)", x.make(0, 3, 61), -1);
        due.is("make(0, 4, MAX)", x.make(0, 4, MAX), -1);
        due.is("make(0, 3, -1)", x.make(0, 3, -1), -14);
        due.is("make(0, 4, MIN)", x.make(0, 4, MIN), -14);
        due.is("nothing is there", x.weight(0), -11);
        due.is("make(0, 3, 60)", x.make(0, 3, 60), 0);
        due.is("make(1, 4, 0)", x.make(1, 4, 0), 0);
        due.is("make(7, 4, 2)", x.make(7, 4, 2), 0);
        row("sixty", x, 0, new long[60]);
        row("none", x, 1);
        row("two", x, 7, 0, 0);
        x.make(0, 4, -1);
        due.is("a refused one leaves it", Due.element(x, 0, 59), 0);
    }

    /**
     * Promise 28: "IllegalArgumentException: no such SHELF; IllegalStateException: nothing is held, it is no ROW, or
     * has no such place."
     */
    private void elements() {
        ClockCourt x = net();
        x.keep(0, 1, 0);
        x.make(1, 3, 2);
        due.is("element(-1, 0)", Due.element(x, -1, 0), Due.ILLEGAL_ARGUMENT);
        due.is("element(8, 0)", Due.element(x, 8, 0), Due.ILLEGAL_ARGUMENT);
        due.is("element(MAX, -1)", Due.element(x, MAX, -1), Due.ILLEGAL_ARGUMENT);
        due.is("element(0, 0) of a cell", Due.element(x, 0, 0), Due.ILLEGAL_STATE);
        due.is("element(2, 0) of nothing", Due.element(x, 2, 0), Due.ILLEGAL_STATE);
        due.is("element(1, -1)", Due.element(x, 1, -1), Due.ILLEGAL_STATE);
        due.is("element(1, 2)", Due.element(x, 1, 2), Due.ILLEGAL_STATE);
        due.is("element(1, MAX)", Due.element(x, 1, MAX), Due.ILLEGAL_STATE);
        due.is("element(1, MIN)", Due.element(x, 1, MIN), Due.ILLEGAL_STATE);
        due.is("element(1, 1)", Due.element(x, 1, 1), 0);
    }

    private static ClockCourt rows() {
        ClockCourt x = new ClockCourt();
        x.input(0);
        for (int m = 1; m <= 5; m++) {
            x.moment(m, 0, 0);
        }
        x.keep(0, 4, 0);
        x.make(1, 4, 3);
        x.make(2, 3, 3);
        x.keep(3, 1, 0);
        return x;
    }

    /**
     * Promise 29: "n elements of the ROW on SHELF d, from place i, come to the ROW on SHELF e, from place j (as they
     * all were before): n."
     */
    private void copy() {
        ClockCourt x = rows();
        due.is("copy(0, 1, 1, 0, 3)", x.copy(0, 1, 1, 0, 3), 3);
        row("copied", x, 1, 2, 3, 4);
        row("copied from", x, 0, 1, 2, 3, 4, 5);
        due.is("copy(0, 0, 0, 1, 4)", x.copy(0, 0, 0, 1, 4), 4);
        row("upwards in itself", x, 0, 1, 1, 2, 3, 4);
        due.is("copy(0, 2, 0, 0, 3)", x.copy(0, 2, 0, 0, 3), 3);
        row("downwards in itself", x, 0, 2, 3, 4, 3, 4);
        due.is("none, at both ends", x.copy(0, 5, 1, 3, 0), 0);
        x.keep(4, 4, 0);
        row("another row stays", x, 4, 1, 2, 3, 4, 5);
        x.keep(5, 3, 0);
        x.moment(1, 1, 0);
        x.keep(6, 3, 0);
        due.is("booleans", x.copy(6, 0, 2, 2, 1), 1);
        row("booleans copied", x, 2, 0, 0, 1);
        row("booleans as they were", x, 5, 0);
    }

    /**
     * Promise 29: "-1; -11: of either; -12: one is no ROW, or they are not of one kind; -13: n, i or j is below 0, or
     * beyond either's end."
     */
    private void copyRefused() {
        ClockCourt x = rows();
        due.is("copy(-1, ..)", x.copy(-1, 0, 1, 0, 1), -1);
        due.is("copy(8, ..)", x.copy(8, 0, 1, 0, 1), -1);
        due.is("copy(.., -1, ..)", x.copy(0, 0, -1, 0, 1), -1);
        due.is("copy(.., 8, ..), nothing too", x.copy(7, 0, 8, 0, 1), -1);
        due.is("from nothing", x.copy(7, 0, 1, 0, 1), -11);
        due.is("to nothing", x.copy(0, 0, 7, 0, 1), -11);
        due.is("from a cell to nothing", x.copy(3, 0, 7, 0, -1), -11);
        due.is("from a cell", x.copy(3, 0, 0, 0, 0), -12);
        due.is("to a cell", x.copy(0, 0, 3, 0, 0), -12);
        due.is("of two cells", x.copy(3, 0, 3, 0, 0), -12);
        due.is("ints to booleans", x.copy(0, 0, 2, 0, 1), -12);
        due.is("booleans to ints, -1 of them", x.copy(2, 0, 1, 0, -1), -12);
        due.is("-1 of them", x.copy(0, 0, 1, 0, -1), -13);
        due.is("from -1", x.copy(0, -1, 1, 0, 1), -13);
        due.is("to -1", x.copy(0, 0, 1, -1, 1), -13);
        due.is("beyond the end of the first", x.copy(0, 3, 1, 0, 3), -13);
        due.is("beyond the end of the second", x.copy(0, 0, 1, 1, 3), -13);
        due.is("none, from beyond the end", x.copy(0, 6, 1, 0, 0), -13);
        due.is("none, to beyond the end", x.copy(0, 0, 1, 4, 0), -13);
        due.is("MAX of them", x.copy(0, 1, 1, 0, MAX), -13);
        due.is("from MAX", x.copy(0, MAX, 1, 0, 1), -13);
        due.is("to MAX, MAX of them", x.copy(0, 0, 1, MAX, MAX), -13);
        due.is("from MIN", x.copy(0, MIN, 1, 0, 1), -13);
        row("nothing came", x, 1, 0, 0, 0);
    }

    /**
     * Promise 30: "its number and 1; of GATES 10 more, of PICKS three times that; of BITS 100 more, of KEEPERS also 5
     * and their SOURCE. -1, -11, -12."
     */
    private void weights() {
        ClockCourt x = net();
        x.gate(1, 0, 1, 0);
        x.gate(2, 0, 1, 0);
        long[] want = {101, 12, 109, 42, 15, 16, 17};
        for (int cell = 0; cell < want.length; cell++) {
            x.keep(3, 1, cell);
            due.is("weight of cell " + cell, x.weight(3), want[cell]);
        }
        due.is("weight(-1)", x.weight(-1), -1);
        due.is("weight(8)", x.weight(8), -1);
        due.is("weight of nothing", x.weight(0), -11);
        x.make(0, 3, 1);
        due.is("weight of booleans", x.weight(0), -12);
        x.make(0, 4, 0);
        due.is("weight of ints", x.weight(0), -12);
    }

    /** Promise 31: "the CLOCK of a BIT. -1, -11, -12; -15: a GATE has none." */
    private void tosses() {
        ClockCourt x = net();
        x.gate(1, 0, 1, 0);
        x.gate(2, 0, 1, 0);
        x.keeper(0, 0);
        x.input(2);
        long[] want = {3, -15, 1, -15, -15, -15, -15, 0, 2};
        for (int cell = 0; cell < want.length; cell++) {
            x.keep(3, 1, cell);
            due.is("toss of cell " + cell, x.toss(3), want[cell]);
        }
        due.is("toss(-1)", x.toss(-1), -1);
        due.is("toss(8)", x.toss(8), -1);
        due.is("toss of nothing", x.toss(0), -11);
        x.make(0, 3, 1);
        due.is("toss of booleans", x.toss(0), -12);
        x.make(0, 4, 0);
        due.is("toss of ints", x.toss(0), -12);
    }
}
