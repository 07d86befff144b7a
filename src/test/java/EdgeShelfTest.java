/** Sentences of the document that name an edge: promises 26 to 31, and the Terms on SHELVES. */
public final class EdgeShelfTest {
    private static final int MAX = Integer.MAX_VALUE;
    private static final int MIN = Integer.MIN_VALUE;

    private final Due due = new Due();
    private final Refused refused = new Refused(due);

    public static void main(String[] args) {
        EdgeShelfTest t = new EdgeShelfTest();
        t.shelves();
        t.keepNumbers();
        t.keepWhat();
        t.keepNothing();
        t.keepRowsOfNoneAndOfAll();
        t.keepAsItIsThen();
        t.makeNumbers();
        t.makeSizes();
        t.makeRefused();
        t.elementNumbers();
        t.elementRefused();
        t.copyNumbers();
        t.copyToTheEnds();
        t.copyOntoItself();
        t.copyBeyondTheEnds();
        t.copyRefused();
        t.copyOfSeveralRefusals();
        t.weights();
        t.tosses();
        t.nothingAndRows();
        t.due.end();
    }

    private void row(String name, ClockCourt x, int d, long... want) {
        for (int i = 0; i < want.length; i++) {
            due.is(name + ": element(" + d + ", " + i + ")", Due.element(x, d, i), want[i]);
        }
        due.is(name + ": element behind the last", Due.element(x, d, want.length), Due.ILLEGAL_STATE);
    }

    /** Terms: "SHELVES 0 .. 7 each hold nothing (at first), a CELL (as it is then), a ROW of booleans or ints." */
    private void shelves() {
        ClockCourt x = new ClockCourt();
        x.input(0);
        for (int d = 0; d < 8; d++) {
            due.is("make(" + d + ", 4, " + d + ")", x.make(d, 4, d), 0);
        }
        for (int d = 0; d < 8; d++) {
            row("each has its own", x, d, new long[d]);
        }
        due.is("keep(0, 1, 0)", x.keep(0, 1, 0), 0);
        due.is("keep(7, 1, 0)", x.keep(7, 1, 0), 0);
        due.is("weight(0)", x.weight(0), 101);
        due.is("weight(7)", x.weight(7), 101);
        due.is("weight(1)", x.weight(1), -12);
        due.is("weight(6)", x.weight(6), -12);
    }

    /** Promise 26: "SHELF d gets[..] -1.": no such SHELF, no such CELL. */
    private void keepNumbers() {
        for (int what : new int[] {0, 1, 3, 4}) {
            refused.outside("keep(#, " + what + ", 0)", 0, 7, (x, n) -> x.keep(n, what, 0), -1);
            due.is("keep(0, " + what + ", 0)", Built.busy().keep(0, what, 0), 0);
            due.is("keep(7, " + what + ", 6)", Built.busy().keep(7, what, 6), 0);
        }
        refused.outside("keep(0, 1, #)", 0, 6, (x, n) -> x.keep(0, 1, n), -1);
        refused.outside("keep(7, 1, #)", 0, 6, (x, n) -> x.keep(7, 1, n), -1);
        refused.isOfFull("keep(0, 1, 24)", x -> x.keep(0, 1, 24), -1);
    }

    /** Promise 26: "what = 0 nothing; 1 CELL k; 3 a ROW of booleans[..]; 4 a ROW of ints": 2 is none of them. */
    private void keepWhat() {
        refused.is("keep(0, 2, 0)", x -> x.keep(0, 2, 0), -1);
        refused.is("keep(7, 2, 0)", x -> x.keep(7, 2, 0), -1);
        refused.outside("keep(0, #, 0)", 0, 4, (x, n) -> x.keep(0, n, 0), -1);
        for (int k : Refused.beyond(0, 6)) {
            for (int what : new int[] {0, 3, 4}) {
                due.is("k doesn't matter for " + what, Built.busy().keep(7, what, k), 0);
            }
        }
    }

    /** Promise 26: "what = 0 nothing": of a shelf that held a cell, a row, nothing. */
    private void keepNothing() {
        ClockCourt x = Built.busy();
        for (int d = 0; d < 8; d++) {
            due.is("keep(" + d + ", 0, 0)", x.keep(d, 0, 0), 0);
            due.is("weight(" + d + ")", x.weight(d), -11);
            due.is("element(" + d + ", 0)", Due.element(x, d, 0), Due.ILLEGAL_STATE);
        }
    }

    /**
     * Promise 26: "3 a ROW of booleans: the values of all CELLS in THE RUN; 4 a ROW of ints: the CLOCKS of its MOMENTS,
     * as sets": of no cells and no moments, of 24 and 60.
     */
    private void keepRowsOfNoneAndOfAll() {
        ClockCourt x = new ClockCourt();
        due.is("keep(0, 3, 0) of no cells", x.keep(0, 3, 0), 0);
        row("no cells", x, 0);
        due.is("keep(1, 4, 0) of no moments", x.keep(1, 4, 0), 0);
        row("no moments", x, 1);
        due.is("an empty row is something", x.weight(0), -12);
        due.is("copy(0, 0, 0, 0, 0)", x.copy(0, 0, 0, 0, 0), 0);
        due.is("they are of two kinds", x.copy(0, 0, 1, 0, 0), -12);
        ClockCourt y = Built.full();
        y.keep(1, 3, 0);
        y.keep(2, 4, 0);
        for (int cell = 0; cell < 24; cell++) {
            due.is("element(1, " + cell + ")", Due.element(y, 1, cell), y.value(cell));
        }
        due.is("element(1, 24)", Due.element(y, 1, 24), Due.ILLEGAL_STATE);
        for (int m = 0; m < 60; m++) {
            due.is("element(2, " + m + ")", Due.element(y, 2, m), m < 59 ? 15 : 1);
        }
        due.is("element(2, 60)", Due.element(y, 2, 60), Due.ILLEGAL_STATE);
        ClockCourt z = new ClockCourt();
        for (int set = 1; set <= 15; set++) {
            z.moment(set, 0, 0);
        }
        z.keep(0, 4, 0);
        row("all sets", z, 0, 1, 2, 3, 4, 5, 6, 7, 8, 9, 10, 11, 12, 13, 14, 15);
    }

    /** Terms: "a CELL (as it is then)": what comes later changes neither cells nor rows that are held. */
    private void keepAsItIsThen() {
        ClockCourt x = Built.busy();
        due.is("weight(0)", x.weight(0), 4 + 100 + 5);
        x.connect(3, 6);
        due.is("weight(0) of the source then", x.weight(0), 4 + 100 + 5);
        x.keep(7, 1, 3);
        due.is("weight(7) of the source now", x.weight(7), 4 + 100 + 5 + 6);
        row("values as they were", x, 2, 0, 0, 1, 1, 0, 0, 0);
        row("clocks as they were", x, 3, 9, 6, 3, 1, 5);
        // Keeper 1 is the source of keeper 2; mended, keeper 7 takes its place.
        ClockCourt y = Built.busyNet();
        y.gate(3, 1, 0, 0);
        y.keep(0, 1, 2);
        due.is("mend(0)", y.mend(0), 8);
        y.keep(1, 1, 2);
        due.is("weight(0) ahead of mending", y.weight(0), 3 + 100 + 5 + 1);
        due.is("weight(1) behind it", y.weight(1), 3 + 100 + 5 + 8);
    }

    /** Promise 27: "SHELF d gets a ROW of n booleans (false), or ints, 0 (what 3, 4; [..]): 0. -1". */
    private void makeNumbers() {
        for (int what = 3; what <= 4; what++) {
            int w = what;
            refused.outside("make(#, " + w + ", 1)", 0, 7, (x, n) -> x.make(n, w, 1), -1);
            due.is("make(0, " + w + ", 1)", Built.busy().make(0, w, 1), 0);
            due.is("make(7, " + w + ", 1)", Built.busy().make(7, w, 1), 0);
        }
        refused.outside("make(7, #, 1)", 3, 4, (x, n) -> x.make(7, n, 1), -1);
        refused.is("make(0, 0, 1)", x -> x.make(0, 0, 1), -1);
        refused.is("make(0, 1, 1)", x -> x.make(0, 1, 1), -1);
    }

    /** Promise 27: "n up to 60": 0 and 60 are taken, 61 and the largest are not: -1. */
    private void makeSizes() {
        for (int what = 3; what <= 4; what++) {
            int w = what;
            ClockCourt x = Built.busy();
            for (int n : new int[] {0, 1, 59, 60}) {
                due.is("make(3, " + w + ", " + n + ")", x.make(3, w, n), 0);
                row("of " + n, x, 3, new long[n]);
            }
            for (int n : new int[] {61, 62, MAX - 1, MAX}) {
                refused.is("make(3, " + w + ", " + n + ")", y -> y.make(3, w, n), -1);
            }
        }
    }

    /** Promise 27: "-14: n is below 0." Terms: "-2, -3, -11 to -15 as told": -1 comes first. */
    private void makeRefused() {
        for (int n : new int[] {-1, -2, MIN, MIN + 1}) {
            refused.is("make(3, 3, " + n + ")", x -> x.make(3, 3, n), -14);
            refused.is("make(3, 4, " + n + ")", x -> x.make(3, 4, n), -14);
            refused.is("make(7, 4, " + n + ")", x -> x.make(7, 4, n), -14);
            refused.is("make(8, 4, " + n + ")", x -> x.make(8, 4, n), -1);
            refused.is("make(-1, 4, " + n + ")", x -> x.make(-1, 4, n), -1);
            refused.is("make(3, 2, " + n + ")", x -> x.make(3, 2, n), -1);
            refused.is("make(3, 5, " + n + ")", x -> x.make(3, 5, n), -1);
        }
    }

    /** Promise 28: "Element i, from 0, of the ROW on SHELF d (booleans 1, 0)." */
    private void elementNumbers() {
        ClockCourt x = Built.busy();
        row("booleans", x, 2, 0, 0, 1, 1, 0, 0, 0);
        row("ints", x, 3, 9, 6, 3, 1, 5);
        row("sixty", x, 5, new long[60]);
        due.is("copy(2, 2, 4, 1, 1)", x.copy(2, 2, 4, 1, 1), 1);
        row("a boolean that is true", x, 4, 0, 1);
    }

    /**
     * Promise 28: "IllegalArgumentException: no such SHELF; IllegalStateException: nothing is held, it is no ROW, or
     * has no such place."
     */
    private void elementRefused() {
        for (int i : new int[] {0, -1, MAX, MIN}) {
            refused.outside("element(#, " + i + ")", 0, 7, (x, n) -> Due.element(x, n, i), Due.ILLEGAL_ARGUMENT);
            refused.is("element(0, " + i + ") of a cell", x -> Due.element(x, 0, i), Due.ILLEGAL_STATE);
            refused.is("element(7, " + i + ") of nothing", x -> Due.element(x, 7, i), Due.ILLEGAL_STATE);
        }
        refused.outside("element(2, #)", 0, 6, (x, n) -> Due.element(x, 2, n), Due.ILLEGAL_STATE);
        refused.outside("element(3, #)", 0, 4, (x, n) -> Due.element(x, 3, n), Due.ILLEGAL_STATE);
        refused.outside("element(5, #)", 0, 59, (x, n) -> Due.element(x, 5, n), Due.ILLEGAL_STATE);
        ClockCourt y = new ClockCourt();
        y.make(0, 4, 0);
        due.is("element(0, 0) of an empty row", Due.element(y, 0, 0), Due.ILLEGAL_STATE);
    }

    /** Promise 29: "-1" of either SHELF. */
    private void copyNumbers() {
        for (int e : new int[] {5, 7, 0}) {
            refused.outside("copy(#, 0, " + e + ", 0, 1)", 0, 7, (x, n) -> x.copy(n, 0, e, 0, 1), -1);
            refused.outside("copy(" + e + ", 0, #, 0, 1)", 0, 7, (x, n) -> x.copy(e, 0, n, 0, 1), -1);
        }
        ClockCourt y = new ClockCourt();
        y.make(0, 3, 2);
        y.make(7, 3, 2);
        due.is("copy(0, 0, 7, 0, 2)", y.copy(0, 0, 7, 0, 2), 2);
        due.is("copy(7, 0, 0, 0, 2)", y.copy(7, 0, 0, 0, 2), 2);
    }

    /** Clocks 1 .. 5 on shelf 0; on shelf 1 three ints, on shelf 2 three booleans, on shelf 3 a cell. */
    private static ClockCourt rows() {
        ClockCourt x = new ClockCourt();
        x.input(0);
        for (int m = 1; m <= 5; m++) {
            x.moment(m, 0, 0);
        }
        x.keep(0, 4, 0);
        x.make(1, 4, 3);
        x.make(2, 3, 3);
        x.keep(3, 1, 0);
        return x;
    }

    /** Promise 29: "n elements of the ROW on SHELF d, from place i, come to the ROW on SHELF e, from place j". */
    private void copyToTheEnds() {
        ClockCourt x = rows();
        due.is("copy(0, 2, 1, 0, 3): all of the second", x.copy(0, 2, 1, 0, 3), 3);
        row("the last three", x, 1, 3, 4, 5);
        due.is("copy(0, 0, 1, 2, 1): one to the last place", x.copy(0, 0, 1, 2, 1), 1);
        row("one", x, 1, 3, 4, 1);
        due.is("copy(0, 4, 1, 0, 1): the last one", x.copy(0, 4, 1, 0, 1), 1);
        row("the last one", x, 1, 5, 4, 1);
        due.is("copy(0, 5, 1, 3, 0): none, at both ends", x.copy(0, 5, 1, 3, 0), 0);
        due.is("copy(0, 0, 1, 0, 0): none", x.copy(0, 0, 1, 0, 0), 0);
        row("none came", x, 1, 5, 4, 1);
        row("the first row is as it was", x, 0, 1, 2, 3, 4, 5);
        x.make(4, 4, 60);
        x.make(5, 4, 60);
        due.is("copy(0, 0, 4, 55, 5)", x.copy(0, 0, 4, 55, 5), 5);
        due.is("copy(4, 0, 5, 0, 60): all sixty", x.copy(4, 0, 5, 0, 60), 60);
        due.is("element(5, 59)", Due.element(x, 5, 59), 5);
        due.is("element(5, 54)", Due.element(x, 5, 54), 0);
        x.make(6, 4, 0);
        due.is("none to an empty row", x.copy(0, 5, 6, 0, 0), 0);
        due.is("none from an empty row", x.copy(6, 0, 0, 5, 0), 0);
        due.is("one to an empty row", x.copy(0, 0, 6, 0, 1), -13);
        due.is("one from an empty row", x.copy(6, 0, 0, 0, 1), -13);
    }

    /** Promise 29: "(as they all were before)": onto places of the same row, upwards, downwards, the same ones. */
    private void copyOntoItself() {
        ClockCourt x = rows();
        due.is("copy(0, 0, 0, 1, 4)", x.copy(0, 0, 0, 1, 4), 4);
        row("upwards", x, 0, 1, 1, 2, 3, 4);
        due.is("copy(0, 1, 0, 0, 4)", x.copy(0, 1, 0, 0, 4), 4);
        row("downwards", x, 0, 1, 2, 3, 4, 4);
        due.is("copy(0, 0, 0, 0, 5)", x.copy(0, 0, 0, 0, 5), 5);
        row("the same ones", x, 0, 1, 2, 3, 4, 4);
    }

    private void beyond(int d, int i, int e, int j, int n) {
        String call = "copy(" + d + ", " + i + ", " + e + ", " + j + ", " + n + ")";
        refused.is(call, "rows", EdgeShelfTest::rows, x -> x.copy(d, i, e, j, n), -13);
    }

    /** Promise 29: "-13: n, i or j is below 0, or beyond either's end." */
    private void copyBeyondTheEnds() {
        for (int below : new int[] {-1, -2, MIN, MIN + 1}) {
            beyond(0, 0, 1, 0, below);
            beyond(0, below, 1, 0, 1);
            beyond(0, 0, 1, below, 1);
            beyond(0, below, 1, 0, 0);
            beyond(0, 0, 1, below, 0);
            beyond(0, below, 1, below, below);
        }
        beyond(0, 0, 1, 0, 4);
        beyond(0, 3, 1, 0, 3);
        beyond(0, 5, 1, 0, 1);
        beyond(0, 6, 1, 0, 0);
        beyond(0, 0, 1, 1, 3);
        beyond(0, 0, 1, 3, 1);
        beyond(0, 0, 1, 4, 0);
        beyond(1, 0, 0, 0, 4);
        beyond(1, 0, 0, 3, 3);
        for (int above : new int[] {MAX - 1, MAX}) {
            beyond(0, 0, 1, 0, above);
            beyond(0, 1, 1, 1, above);
            beyond(0, above, 1, 0, 1);
            beyond(0, above, 1, 0, 0);
            beyond(0, 0, 1, above, 1);
            beyond(0, 0, 1, above, 0);
            beyond(0, above, 1, above, above);
        }
        // Sums that come out small if they wrap round.
        beyond(0, MAX, 1, 0, MIN);
        beyond(0, MIN, 1, 0, MAX);
        beyond(0, MAX, 1, MAX, 2);
    }

    /** Promise 29: "-11: of either; -12: one is no ROW, or they are not of one kind". */
    private void copyRefused() {
        refused.is("copy(7, 0, 5, 0, 1): from nothing", x -> x.copy(7, 0, 5, 0, 1), -11);
        refused.is("copy(5, 0, 7, 0, 1): to nothing", x -> x.copy(5, 0, 7, 0, 1), -11);
        refused.is("copy(7, 0, 7, 0, 0): nothing of either", x -> x.copy(7, 0, 7, 0, 0), -11);
        refused.is("copy(0, 0, 5, 0, 1): from a cell", x -> x.copy(0, 0, 5, 0, 1), -12);
        refused.is("copy(5, 0, 0, 0, 1): to a cell", x -> x.copy(5, 0, 0, 0, 1), -12);
        refused.is("copy(0, 0, 1, 0, 0): of two cells", x -> x.copy(0, 0, 1, 0, 0), -12);
        refused.is("copy(0, 0, 0, 0, 0): of one cell", x -> x.copy(0, 0, 0, 0, 0), -12);
        refused.is("copy(2, 0, 5, 0, 1): booleans to ints", x -> x.copy(2, 0, 5, 0, 1), -12);
        refused.is("copy(3, 0, 4, 0, 1): ints to booleans", x -> x.copy(3, 0, 4, 0, 1), -12);
        refused.is("copy(3, 0, 4, 0, 0): none of them", x -> x.copy(3, 0, 4, 0, 0), -12);
    }

    /** Terms: "Answers of several refusals are the first one here: -1 [..]; -2, -3, -11 to -15 as told." */
    private void copyOfSeveralRefusals() {
        refused.is("no shelf, nothing", x -> x.copy(7, 0, 8, 0, 1), -1);
        refused.is("nothing, no shelf", x -> x.copy(-1, 0, 7, 0, 1), -1);
        refused.is("a cell, no shelf", x -> x.copy(0, 0, 8, 0, 1), -1);
        refused.is("no shelf, places below 0", x -> x.copy(8, -1, 5, -1, -1), -1);
        refused.is("nothing, a cell", x -> x.copy(7, 0, 0, 0, 1), -11);
        refused.is("a cell, nothing", x -> x.copy(0, 0, 7, 0, 1), -11);
        refused.is("nothing, places below 0", x -> x.copy(5, -1, 7, -1, -1), -11);
        refused.is("a cell, nothing, places below 0", x -> x.copy(0, -1, 7, -1, -1), -11);
        refused.is("a cell, places below 0", x -> x.copy(5, -1, 0, -1, -1), -12);
        refused.is("two kinds, places below 0", x -> x.copy(5, -1, 4, -1, -1), -12);
        refused.is("two kinds, too many", x -> x.copy(5, 0, 4, 0, MAX), -12);
    }

    /**
     * Promise 30: "its number and 1; of GATES 10 more, of PICKS three times that; of BITS 100 more, of KEEPERS also 5
     * and their SOURCE. -1": the first cell and the last one.
     */
    private void weights() {
        ClockCourt x = new ClockCourt();
        x.keeper(0, 0);
        for (int i = 1; i < 23; i++) {
            x.gate(i % 5, 0, 0, 0);
        }
        x.keeper(3, 1);
        x.keep(0, 1, 0);
        due.is("keeper 0, its own source", x.weight(0), 1 + 100 + 5);
        for (int i = 1; i < 23; i++) {
            x.keep(0, 1, i);
            due.is("gate " + i, x.weight(0), i % 5 == 4 ? 3 * (i + 1 + 10) : i + 1 + 10);
        }
        x.keep(0, 1, 23);
        due.is("keeper 23, its own source", x.weight(0), 24 + 100 + 5 + 23);
        x.connect(23, 0);
        x.connect(0, 23);
        x.keep(0, 1, 23);
        x.keep(7, 1, 0);
        due.is("keeper 23, source 0", x.weight(0), 24 + 100 + 5);
        due.is("keeper 0, source 23", x.weight(7), 1 + 100 + 5 + 23);
        ClockCourt y = cells23();
        due.is("the last cell, an input", y.input(0), 23);
        y.keep(0, 1, 23);
        due.is("input 23", y.weight(0), 24 + 100);
        ClockCourt z = cells23();
        z.gate(4, 0, 0, 0);
        z.keep(0, 1, 23);
        due.is("PICK 23", z.weight(0), 3 * (24 + 10));
        refused.outside("weight(#)", 0, 7, (w, n) -> w.weight(n), -1);
    }

    private static ClockCourt cells23() {
        ClockCourt x = new ClockCourt();
        x.input(0);
        for (int i = 1; i < 23; i++) {
            x.gate(3, 0, 0, 0);
        }
        return x;
    }

    /** Promise 31: "thrown, and caught: the CLOCK of a BIT. -1, -11, -12; -15: a GATE has none." */
    private void tosses() {
        for (int clock = 0; clock < 4; clock++) {
            ClockCourt x = new ClockCourt();
            x.input(clock);
            x.keeper(clock, 1);
            x.keep(0, 1, 0);
            x.keep(7, 1, 1);
            due.is("an input of clock " + clock, x.toss(0), clock);
            due.is("a keeper of clock " + clock, x.toss(7), clock);
            due.is("it is held still", x.toss(7), clock);
            for (int kind = 0; kind < 5; kind++) {
                x.keep(3, 1, x.gate(kind, 0, 1, 0));
                due.is("gate " + kind, x.toss(3), -15);
            }
        }
        refused.is("toss(1): a gate", x -> x.toss(1), -15);
        refused.outside("toss(#)", 0, 7, (x, n) -> x.toss(n), -1);
    }

    /**
     * Promises 30, 31: "-1, -11, -12". Terms: "-11 nothing is held where something is wanted; -12 it is of another
     * kind".
     */
    private void nothingAndRows() {
        refused.is("weight(7): nothing", x -> x.weight(7), -11);
        refused.is("toss(7): nothing", x -> x.toss(7), -11);
        for (int d = 2; d < 6; d++) {
            int row = d;
            refused.is("weight(" + row + "): a row", x -> x.weight(row), -12);
            refused.is("toss(" + row + "): a row", x -> x.toss(row), -12);
        }
    }
}
