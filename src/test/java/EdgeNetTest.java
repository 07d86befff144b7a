import java.util.function.ToLongFunction;

/**
 * Sentences of the document that name an edge: promises 1 to 8, 24 and 25, and the Terms that they rest on. Each test
 * says which sentence it holds; that a refused call changed nothing is looked at with each of them (Refused).
 */
public final class EdgeNetTest {
    private static final int[] KINDS_WITH_Y = {0, 1, 2, 4};

    private final Due due = new Due();
    private final Refused refused = new Refused(due);

    public static void main(String[] args) {
        EdgeNetTest t = new EdgeNetTest();
        t.busyAndFull();
        t.newObject();
        t.newObjectRefuses();
        t.clocksOfBits();
        t.valuesAtFirst();
        t.lastBit();
        t.lastCell();
        t.fullNet();
        t.kindsOfGates();
        t.cellsBefore();
        t.whatAGateHasNot();
        t.valuesOfGates();
        t.connect();
        t.boundNumbers();
        t.boundClocks();
        t.still();
        t.promiseKinds();
        t.promiseCells();
        t.lastPromise();
        t.counts();
        t.looks();
        t.whatSetsTheRunToTheBeginning();
        t.whatDoesNot();
        t.due.end();
    }

    /** What the other tests rest on; it holds no sentence of its own. */
    private void busyAndFull() {
        ClockCourt x = Built.busy();
        long[] values = {0, 0, 1, 1, 0, 0, 0};
        for (int cell = 0; cell < values.length; cell++) {
            due.is("busy: value(" + cell + ")", x.value(cell), values[cell]);
        }
        due.is("busy: either(0)", x.either(0), 3);
        due.is("busy: ticks(0, 1)", x.ticks(0, 1), 2);
        due.is("busy: broken(1)", x.broken(1), 1);
        due.is("busy: it is not spent", x.walk(), x.count(5));
        due.is("busy: crossings()", x.crossings(), 2);
        due.is("busy: TWICE", x.crossing(0, 1), 1);
        due.is("busy: PLAIN", x.crossing(1, 1), 3);
        ClockCourt y = Built.full();
        due.is("full: it is spent", y.walk(), -252);
        due.is("full: ticks(0, 1)", y.ticks(0, 1), 1);
        due.is("full: PLAIN", y.crossing(0, 1), 3);
        due.is("full: TWICE", y.crossing(1, 1), 1);
    }

    /**
     * Promise 1: "No CELLS, BOUNDS, PROMISES." Terms: "BOUNDS: for two CLOCKS c, d a number n (1 .. 9) or none (at
     * first)"; "THE RUN is at the beginning at first."; "SHELVES 0 .. 7 each hold nothing (at first)".
     */
    private void newObject() {
        ClockCourt x = new ClockCourt();
        for (int what = 0; what < 8; what++) {
            due.is("new: count(" + what + ")", x.count(what), 0);
        }
        due.is("new: start()", x.start(), 0);
        due.is("new: crossings()", x.crossings(), 0);
        for (int c = 0; c < 4; c++) {
            for (int d = 0; d < 4; d++) {
                due.is("new: ticks(" + c + ", " + d + ")", x.ticks(c, d), c == d ? -1 : 0);
                due.is("new: bound(" + c + ", " + d + ", 0)", x.bound(c, d, 0), c == d ? -1 : 0);
            }
        }
        for (int d = 0; d < 8; d++) {
            due.is("new: weight(" + d + ")", x.weight(d), -11);
            due.is("new: toss(" + d + ")", x.toss(d), -11);
            due.is("new: element(" + d + ", 0)", Due.element(x, d, 0), Due.ILLEGAL_STATE);
            due.is("new: copy(" + d + ", 0, 0, 0, 0)", x.copy(d, 0, 0, 0, 0), -11);
        }
    }

    /** Terms: "-1 no such thing": of a new object there is no CELL, PROMISE, STATE, CROSSING, nor KEEPER that was. */
    private void newObjectRefuses() {
        for (int kind = 0; kind < 5; kind++) {
            int k = kind;
            refused.isOfNew("gate(" + k + ", 0, 0, 0)", x -> x.gate(k, 0, 0, 0), -1);
            refused.isOfNew("promise(" + k + ", 0, 0)", x -> x.promise(k, 0, 0), -1);
        }
        refused.isOfNew("connect(0, 0)", x -> x.connect(0, 0), -1);
        refused.isOfNew("still(0, true)", x -> x.still(0, true), -1);
        refused.isOfNew("value(0)", x -> x.value(0), -1);
        refused.isOfNew("either(0)", x -> x.either(0), -1);
        refused.isOfNew("broken(0)", x -> x.broken(0), -1);
        refused.isOfNew("walk()", x -> x.walk(), -3);
        refused.isOfNew("state(0, 0)", x -> x.state(0, 0), -1);
        refused.isOfNew("shown(0, 0)", x -> x.shown(0, 0), -1);
        refused.isOfNew("never(0, 0)", x -> x.never(0, 0), -1);
        refused.isOfNew("follow(0)", x -> x.follow(0), -1);
        refused.isOfNew("fewest(0)", x -> x.fewest(0), -1);
        refused.isOfNew("crossing(0, 0)", x -> x.crossing(0, 0), -1);
        refused.isOfNew("mend(0)", x -> x.mend(0), -1);
        refused.isOfNew("look(0, 0)", x -> x.look(0, 0), -1);
        refused.isOfNew("keep(0, 1, 0)", x -> x.keep(0, 1, 0), -1);
    }

    /**
     * Terms: "BITS (10 at most) are of one of the CLOCKS 0 .. 3". Promise 2: "An INPUT of a CLOCK: its CELL. -1".
     * Promise 3: "A KEEPER of a CLOCK, with a value at first: its CELL. -1".
     */
    private void clocksOfBits() {
        ClockCourt x = new ClockCourt();
        for (int clock = 0; clock < 4; clock++) {
            due.is("input(" + clock + ")", x.input(clock), 2 * clock);
            due.is("its clock", x.look(2 * clock, 1), clock);
            due.is("keeper(" + clock + ", 0)", x.keeper(clock, 0), 2 * clock + 1);
            due.is("its clock", x.look(2 * clock + 1, 1), clock);
        }
        refused.outside("input(#)", 0, 3, (y, n) -> y.input(n), -1);
        refused.outside("keeper(#, 0)", 0, 3, (y, n) -> y.keeper(n, 0), -1);
        refused.outside("keeper(#, 1)", 0, 3, (y, n) -> y.keeper(n, 1), -1);
    }

    /** Terms: "a value at first, 0 or 1 (INPUTS: 0)", "a SOURCE (a CELL; themselves at first)". */
    private void valuesAtFirst() {
        ClockCourt x = new ClockCourt();
        due.is("keeper(0, 0)", x.keeper(0, 0), 0);
        due.is("keeper(0, 1)", x.keeper(0, 1), 1);
        due.is("input(0)", x.input(0), 2);
        due.is("0 at first", x.value(0), 0);
        due.is("1 at first", x.value(1), 1);
        due.is("an input at first", x.value(2), 0);
        due.is("itself at first", x.look(1, 2), 1);
        due.is("an input has no source", x.look(2, 2), -2);
        refused.outside("keeper(0, #)", 0, 1, (y, n) -> y.keeper(0, n), -1);
        refused.is("keeper(4, 2)", y -> y.keeper(4, 2), -1);
    }

    /** Terms: "BITS (10 at most)". Promise 2: "-2: there are 24 CELLS, or 10 BITS". Promise 3: "-1, -2". */
    private void lastBit() {
        for (int inputs = 0; inputs <= 10; inputs++) {
            ClockCourt x = new ClockCourt();
            for (int i = 0; i < 10; i++) {
                due.is("bit " + i + " of ten", i < inputs ? x.input(i % 4) : x.keeper(i % 4, 1), i);
            }
            due.is("an 11th bit, an input", x.input(0), -2);
            due.is("an 11th bit, a keeper", x.keeper(0, 0), -2);
            due.is("an 11th bit of no clock", x.input(4), -1);
            due.is("an 11th bit of no value", x.keeper(0, 2), -1);
            due.is("count(1)", x.count(1), 10);
            due.is("a gate behind ten bits", x.gate(3, 9, 0, 0), 10);
        }
    }

    private static ClockCourt cells23() {
        ClockCourt x = new ClockCourt();
        x.keeper(0, 1);
        for (int i = 1; i < 23; i++) {
            x.gate(3, i - 1, 0, 0);
        }
        return x;
    }

    /** Terms: "CELLS 0 .. 23, as they come; each is a bit." Promises 2, 4: "-2: there are 24 CELLS". */
    private void lastCell() {
        ClockCourt x = cells23();
        due.is("a gate of cell 23", x.gate(3, 23, 0, 0), -1);
        due.is("the 24th cell, an input", x.input(2), 23);
        ClockCourt y = cells23();
        due.is("the 24th cell, a keeper", y.keeper(3, 1), 23);
        due.is("its own source", y.look(23, 2), 23);
        due.is("connect(23, 22)", y.connect(23, 22), 23);
        due.is("connect(0, 23)", y.connect(0, 23), 0);
        due.is("still(23, true)", y.still(23, true), 0);
        due.is("promise(3, 23, 23)", y.promise(3, 23, 23), 0);
        due.is("keep(0, 1, 23)", y.keep(0, 1, 23), 0);
        ClockCourt z = cells23();
        due.is("the 24th cell, a gate", z.gate(4, 22, 21, 0), 23);
        due.is("value(23)", z.value(23), 0);
        due.is("connect to cell 23", z.connect(0, 23), 0);
        for (ClockCourt full : new ClockCourt[] {x, y, z}) {
            due.is("count(0)", full.count(0), 24);
            due.is("value(24)", full.value(24), -1);
            due.is("look(24, 0)", full.look(24, 0), -1);
            due.is("a 25th cell, an input", full.input(0), -2);
            due.is("a 25th cell, a keeper", full.keeper(0, 0), -2);
            due.is("a 25th cell, a gate", full.gate(3, 0, 0, 0), -2);
            due.is("count(0) behind them", full.count(0), 24);
        }
    }

    /** Terms: "Answers of several refusals are the first one here: -1 no such thing, a number out of range". */
    private void fullNet() {
        refused.isOfFull("input(3)", x -> x.input(3), -2);
        refused.isOfFull("input(4)", x -> x.input(4), -1);
        refused.isOfFull("keeper(3, 1)", x -> x.keeper(3, 1), -2);
        refused.isOfFull("keeper(-1, 1)", x -> x.keeper(-1, 1), -1);
        refused.isOfFull("keeper(3, 2)", x -> x.keeper(3, 2), -1);
        refused.isOfFull("gate(4, 23, 23, 23)", x -> x.gate(4, 23, 23, 23), -2);
        refused.isOfFull("gate(5, 23, 23, 23)", x -> x.gate(5, 23, 23, 23), -1);
        refused.isOfFull("gate(4, 24, 23, 23)", x -> x.gate(4, 24, 23, 23), -1);
        refused.isOfFull("gate(4, 23, 24, 23)", x -> x.gate(4, 23, 24, 23), -1);
        refused.isOfFull("gate(4, 23, 23, 24)", x -> x.gate(4, 23, 23, 24), -1);
        refused.isOfFull("gate(3, 23, 24, 24)", x -> x.gate(3, 23, 24, 24), -2);
    }

    /** Terms: "GATES are of CELLS before them: 0 AND x y, 1 OR x y, 2 UNLIKE x y, 3 NOT x, 4 PICK x y z". */
    private void kindsOfGates() {
        ClockCourt x = new ClockCourt();
        x.input(0);
        for (int kind = 0; kind < 5; kind++) {
            due.is("gate(" + kind + ", 0, 0, 0)", x.gate(kind, 0, 0, 0), kind + 1);
            due.is("its kind", x.look(kind + 1, 0), kind);
        }
        refused.outside("gate(#, 0, 0, 0)", 0, 4, (y, n) -> y.gate(n, 0, 0, 0), -1);
    }

    /** Terms: "GATES are of CELLS before them": the last one before it is one, its own number is none. */
    private void cellsBefore() {
        for (int kind = 0; kind < 5; kind++) {
            int k = kind;
            due.is("x the last one before", Built.busy().gate(k, 6, 0, 0), 7);
            refused.outside("gate(" + k + ", #, 0, 0)", 0, 6, (x, n) -> x.gate(k, n, 0, 0), -1);
        }
        for (int k : KINDS_WITH_Y) {
            due.is("y the last one before", Built.busy().gate(k, 0, 6, 0), 7);
            refused.outside("gate(" + k + ", 0, #, 0)", 0, 6, (x, n) -> x.gate(k, 0, n, 0), -1);
        }
        due.is("z the last one before", Built.busy().gate(4, 0, 0, 6), 7);
        refused.outside("gate(4, 0, 0, #)", 0, 6, (x, n) -> x.gate(4, 0, 0, n), -1);
    }

    /** Promise 4: "A GATE (y, z don't matter where it has none): its CELL." Promise 25: "(-2: it has none such)". */
    private void whatAGateHasNot() {
        for (int n : Refused.beyond(0, 6)) {
            ClockCourt x = Built.busy();
            due.is("NOT without y, z", x.gate(3, 1, n, n), 7);
            due.is("no y", x.look(7, 3), -2);
            due.is("no z", x.look(7, 4), -2);
            for (int kind = 0; kind < 3; kind++) {
                due.is("gate " + kind + " without z", x.gate(kind, 1, 2, n), 8 + kind);
                due.is("its y", x.look(8 + kind, 3), 2);
                due.is("no z", x.look(8 + kind, 4), -2);
            }
        }
        ClockCourt y = Built.busy();
        y.gate(3, 1, 2, 3);
        due.is("NOT has no y, though a cell was told", y.look(7, 3), -2);
    }

    /** Terms: "A GATE's value is always that of its CELLS.": at the beginning, behind moments, behind a chain. */
    private void valuesOfGates() {
        ClockCourt x = new ClockCourt();
        for (int i = 0; i < 3; i++) {
            x.input(0);
        }
        for (int kind = 0; kind < 5; kind++) {
            x.gate(kind, 0, 1, 2);
        }
        x.gate(4, 2, 0, 1);
        x.gate(4, 1, 2, 0);
        for (int i = 10; i < 24; i++) {
            x.gate(3, i - 1, 0, 0);
        }
        valuesOfGates(x, 0);
        for (int in = 0; in < 8; in++) {
            x.moment(1, in, 0);
            valuesOfGates(x, in);
        }
        x.start();
        valuesOfGates(x, 0);
    }

    private void valuesOfGates(ClockCourt x, int in) {
        boolean a = (in & 1) != 0;
        boolean b = (in & 2) != 0;
        boolean c = (in & 4) != 0;
        boolean[] want = {a && b, a || b, a != b, !a, a ? b : c};
        for (int kind = 0; kind < 5; kind++) {
            due.is("gate " + kind + " of " + in, x.value(3 + kind), want[kind] ? 1 : 0);
        }
        due.is("PICK of the last, the first and the second of " + in, x.value(8), (c ? a : b) ? 1 : 0);
        due.is("PICK of the second, the last and the first of " + in, x.value(9), (b ? c : a) ? 1 : 0);
        due.is("NOT fourteen times of " + in, x.value(23), (b ? c : a) ? 1 : 0);
        due.is("NOT thirteen times of " + in, x.value(22), (b ? c : a) ? 0 : 1);
    }

    /** Promise 5: "The SOURCE of a KEEPER is a CELL (any): the one before. -1." */
    private void connect() {
        ClockCourt x = Built.busy();
        int before = 0;
        for (int source : new int[] {0, 1, 2, 3, 4, 5, 6, 6, 1}) {
            due.is("connect(1, " + source + ")", x.connect(1, source), before);
            due.is("look(1, 2)", x.look(1, 2), source);
            before = source;
        }
        refused.outside("connect(#, 0)", 0, 6, (y, n) -> y.connect(n, 0), -1);
        refused.outside("connect(1, #)", 0, 6, (y, n) -> y.connect(1, n), -1);
        refused.is("connect(0, 1): an input", y -> y.connect(0, 1), -1);
        refused.is("connect(4, 1): a gate", y -> y.connect(4, 1), -1);
        refused.is("connect(6, 7): an input, no cell", y -> y.connect(6, 7), -1);
    }

    /** Promise 6: "n, or 0 for none: the one before (0: none). -1." Terms: "a number n (1 .. 9) or none (at first)". */
    private void boundNumbers() {
        ClockCourt x = new ClockCourt();
        int before = 0;
        for (int n : new int[] {1, 9, 0, 0, 9, 9, 1, 0}) {
            due.is("bound(2, 3, " + n + ")", x.bound(2, 3, n), before);
            before = n;
        }
        for (int n = 1; n <= 9; n++) {
            due.is("bound(2, 3, " + n + ")", x.bound(2, 3, n), n - 1);
        }
        refused.outside("bound(0, 1, #)", 0, 9, (y, n) -> y.bound(0, 1, n), -1);
        refused.outside("bound(2, 3, #)", 0, 9, (y, n) -> y.bound(2, 3, n), -1);
    }

    /** Promise 6: "A BOUND on the ticks of c between those of d (not c itself)": each two have their own. */
    private void boundClocks() {
        ClockCourt x = new ClockCourt();
        for (int pair = 0; pair < 16; pair++) {
            due.is("pair " + pair + " at first", x.bound(pair / 4, pair % 4, 1 + pair % 9), pair % 5 == 0 ? -1 : 0);
        }
        for (int pair = 0; pair < 16; pair++) {
            int want = pair % 5 == 0 ? -1 : 1 + pair % 9;
            due.is("pair " + pair + " then", x.bound(pair / 4, pair % 4, 0), want);
        }
        for (int clock = 0; clock < 4; clock++) {
            int c = clock;
            refused.is("bound(c, c, 0)", y -> y.bound(c, c, 0), -1);
            refused.is("bound(c, c, 1)", y -> y.bound(c, c, 1), -1);
            refused.outside("bound(#, c, 1)", 0, 3, (y, n) -> y.bound(n, c, 1), -1);
            refused.outside("bound(c, #, 1)", 0, 3, (y, n) -> y.bound(c, n, 1), -1);
        }
    }

    /** Promise 7: "A BIT is told to be still, or not to be: whether it was. -1." */
    private void still() {
        ClockCourt x = Built.full();
        for (int bit = 0; bit < 10; bit++) {
            due.is("not told", x.still(bit, false), 0);
            due.is("not to be, again", x.still(bit, true), 0);
            due.is("to be", x.still(bit, true), 1);
        }
        for (int bit = 0; bit < 10; bit++) {
            due.is("each has its own", x.still(bit, bit % 2 == 0), 1);
        }
        for (int bit = 0; bit < 10; bit++) {
            due.is("each had its own", x.still(bit, true), bit % 2 == 0 ? 1 : 0);
        }
        for (boolean is : new boolean[] {false, true}) {
            refused.outside("still(#, " + is + ")", 0, 6, (y, n) -> y.still(n, is), -1);
            refused.is("still(4, " + is + "): a gate", y -> y.still(4, is), -1);
            refused.isOfFull("still(23, " + is + "): a gate", y -> y.still(23, is), -1);
        }
    }

    /** Terms: "0 ALWAYS x: CELL x is 1. 1 NEVER BOTH x y. 2 AS x y: both have one value. 3 ONE x y": no other kinds. */
    private void promiseKinds() {
        for (int kind = 0; kind < 4; kind++) {
            due.is("promise(" + kind + ", 0, 6)", Built.busy().promise(kind, 0, 6), 4);
        }
        refused.outside("promise(#, 0, 0)", 0, 3, (y, n) -> y.promise(n, 0, 0), -1);
    }

    /** Promise 8: "A PROMISE comes (of 3: x not above y): its number. -1". */
    private void promiseCells() {
        for (int kind = 0; kind < 4; kind++) {
            int k = kind;
            due.is("x and y the last cell", Built.busy().promise(k, 6, 6), 4);
            due.is("x and y the first cell", Built.busy().promise(k, 0, 0), 4);
            due.is("x one below y", Built.busy().promise(k, 5, 6), 4);
            refused.outside("promise(" + k + ", #, 6)", 0, 6, (x, n) -> x.promise(k, n, 6), -1);
        }
        for (int kind = 1; kind < 4; kind++) {
            int k = kind;
            refused.outside("promise(" + k + ", 0, #)", 0, 6, (x, n) -> x.promise(k, 0, n), -1);
        }
        for (int kind = 0; kind < 3; kind++) {
            due.is("x above y, kind " + kind, Built.busy().promise(kind, 6, 5), 4);
        }
        refused.is("promise(3, 6, 5)", x -> x.promise(3, 6, 5), -1);
        refused.is("promise(3, 1, 0)", x -> x.promise(3, 1, 0), -1);
        refused.is("promise(3, 6, 0)", x -> x.promise(3, 6, 0), -1);
        for (int n : Refused.beyond(0, 6)) {
            due.is("ALWAYS has no y", Built.busy().promise(0, 6, n), 4);
        }
    }

    /** Promise 8: "-2: there are 8." Terms: "PROMISES 0 .. 7". */
    private void lastPromise() {
        ClockCourt x = new ClockCourt();
        x.input(0);
        for (int p = 0; p < 8; p++) {
            due.is("promise " + p, x.promise(p % 4, 0, 0), p);
        }
        due.is("broken(7)", x.broken(7), -2);
        due.is("broken(8)", x.broken(8), -1);
        refused.isOfFull("promise(0, 0, 0)", y -> y.promise(0, 0, 0), -2);
        refused.isOfFull("promise(3, 23, 23)", y -> y.promise(3, 23, 23), -2);
        refused.isOfFull("promise(4, 0, 0)", y -> y.promise(4, 0, 0), -1);
        refused.isOfFull("promise(0, 24, 0)", y -> y.promise(0, 24, 0), -1);
        refused.isOfFull("promise(1, 0, 24)", y -> y.promise(1, 0, 24), -1);
        refused.isOfFull("promise(3, 23, 22)", y -> y.promise(3, 23, 22), -1);
    }

    /** Promise 24: "-1 for others." */
    private void counts() {
        ClockCourt x = Built.full();
        long[] want = {24, 10, 14, 8, 60, 250};
        for (int what = 0; what < want.length; what++) {
            due.is("full: count(" + what + ")", x.count(what), want[what]);
        }
        ClockCourt y = Built.busy();
        long[] less = {7, 5, 2, 4, 5};
        for (int what = 0; what < less.length; what++) {
            due.is("busy: count(" + what + ")", y.count(what), less[what]);
        }
        due.is("busy: all were looked at", y.count(6), y.count(5));
        refused.outside("count(#)", 0, 7, (z, n) -> z.count(n), -1);
    }

    /** Promise 25: "Of a CELL: 0 KIND (0 .. 4 a GATE, 5 INPUT, 6 KEEPER), [..] (-2: it has none such). -1." */
    private void looks() {
        ClockCourt x = Built.busy();
        long[][] want = {
            {5, 0, -2, -2, -2}, {6, 1, 0, -2, -2}, {6, 1, 1, -2, -2}, {6, 2, 0, -2, -2},
            {4, -2, 2, 0, 3}, {3, -2, 2, -2, -2}, {5, 3, -2, -2, -2}};
        for (int cell = 0; cell < want.length; cell++) {
            int c = cell;
            for (int what = 0; what < 5; what++) {
                due.is("look(" + c + ", " + what + ")", x.look(c, what), want[c][what]);
            }
            refused.outside("look(" + c + ", #)", 0, 4, (y, n) -> y.look(c, n), -1);
        }
        for (int what = 0; what < 5; what++) {
            int w = what;
            refused.outside("look(#, " + w + ")", 0, 6, (y, n) -> y.look(n, w), -1);
        }
    }

    /** Terms: "What changes THE NET or BOUNDS sets THE RUN to the beginning, and takes away what was walked." */
    private void whatSetsTheRunToTheBeginning() {
        changes("input(0)", x -> x.input(0));
        changes("keeper(3, 1)", x -> x.keeper(3, 1));
        changes("gate(3, 0, 0, 0)", x -> x.gate(3, 0, 0, 0));
        changes("connect(1, 6)", x -> x.connect(1, 6));
        changes("bound(0, 1, 0)", x -> x.bound(0, 1, 0));
        changes("bound(1, 3, 9)", x -> x.bound(1, 3, 9));
        changes("mend(1)", x -> x.mend(1));
    }

    private void changes(String call, ToLongFunction<ClockCourt> made) {
        ClockCourt x = Built.busy();
        due.is(call + " is taken", made.applyAsLong(x) >= 0 ? 1 : 0, 1);
        due.is(call + ": moments", x.count(4), 0);
        due.is(call + ": either(0)", x.either(0), -1);
        due.is(call + ": value(3), which was 1", x.value(3), 0);
        due.is(call + ": ticks(0, 1), which were 2", x.ticks(0, 1), 0);
        due.is(call + ": broken(1), which was broken", x.broken(1), -2);
        for (int what = 5; what < 8; what++) {
            due.is(call + ": count(" + what + ")", x.count(what), 0);
        }
        due.is(call + ": state(0, 0)", x.state(0, 0), -1);
        due.is(call + ": shown(0, 0)", x.shown(0, 0), -1);
        due.is(call + ": never(0, 0)", x.never(0, 0), -3);
        due.is(call + ": follow(0)", x.follow(0), -1);
        due.is(call + ": fewest(0)", x.fewest(0), -1);
        due.is(call + ": start()", x.start(), 0);
        due.is(call + ": shelves stay", x.weight(0), 4 + 100 + 5);
        due.is(call + ": promises stay", x.broken(0), 0);
    }

    /**
     * Promise 7: "(It changes nothing but KINDS of CROSSINGS.)" Promise 8: "(What was walked goes.)" Other calls that
     * change neither THE NET nor BOUNDS leave what was walked, and all but start, moment and follow THE RUN.
     */
    private void whatDoesNot() {
        leaves("still(0, true)", x -> x.still(0, true), true, true);
        leaves("promise(0, 0, 0)", x -> x.promise(0, 0, 0), true, false);
        leaves("start()", x -> x.start(), false, true);
        leaves("moment(2, 0, 0)", x -> x.moment(2, 0, 0), false, true);
        leaves("follow(1)", x -> x.follow(1), false, true);
        leaves("fewest(1)", x -> x.fewest(1), true, true);
        leaves("walk()", x -> x.walk(), true, true);
        leaves("keep(7, 3, 0)", x -> x.keep(7, 3, 0), true, true);
        leaves("keep(0, 0, 0)", x -> x.keep(0, 0, 0), true, true);
        leaves("make(7, 4, 1)", x -> x.make(7, 4, 1), true, true);
        leaves("copy(3, 0, 5, 0, 5)", x -> x.copy(3, 0, 5, 0, 5), true, true);
        leaves("toss(0)", x -> x.toss(0), true, true);
    }

    private void leaves(String call, ToLongFunction<ClockCourt> made, boolean run, boolean walk) {
        ClockCourt x = Built.busy();
        int states = x.count(5);
        due.is(call + " is taken", made.applyAsLong(x) >= 0 ? 1 : 0, 1);
        due.is(call + ": the run stays", x.count(4) == 5 && x.either(0) == 3 ? 1 : 0, run ? 1 : 0);
        due.is(call + ": the walk stays", x.count(5), walk ? states : 0);
        due.is(call + ": never(3, 0)", x.never(3, 0), walk ? -2 : -3);
    }
}
