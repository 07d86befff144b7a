/** Promises 1 to 8, 24 and 25: the net, bounds, what is told, and what they do to the run and the walk. */
public final class NetTest {
    private static final int MAX = Integer.MAX_VALUE;
    private static final int MIN = Integer.MIN_VALUE;

    private final Due due = new Due();

    public static void main(String[] args) {
        NetTest t = new NetTest();
        t.newObject();
        t.inputs();
        t.keepers();
        t.gates();
        t.gateValues();
        t.fullCells();
        t.connects();
        t.bounds();
        t.stills();
        t.promises();
        t.counts();
        t.looks();
        t.due.end();
    }

    /** An object whose run has one moment and whose walk has been made: a keeper that turns over, and an input. */
    private static ClockCourt busy() {
        ClockCourt x = new ClockCourt();
        x.keeper(0, 0);
        x.gate(3, 0, 0, 0);
        x.connect(0, 1);
        x.input(1);
        x.promise(0, 0, 0);
        x.moment(1, 0, 0);
        x.walk();
        return x;
    }

    private void isBusy(String behind, ClockCourt x) {
        due.is("count(4) behind " + behind, x.count(4), 1);
        due.is("value(0) behind " + behind, x.value(0), 1);
        due.is("count(5) behind " + behind, x.count(5), 4);
    }

    private void isAnew(String behind, ClockCourt x) {
        due.is("count(4) behind " + behind, x.count(4), 0);
        due.is("value(0) behind " + behind, x.value(0), 0);
        due.is("count(5) behind " + behind, x.count(5), 0);
        due.is("count(6) behind " + behind, x.count(6), 0);
        due.is("count(7) behind " + behind, x.count(7), 0);
        due.is("state(0, 0) behind " + behind, x.state(0, 0), -1);
        due.is("never(0, 0) behind " + behind, x.never(0, 0), -3);
    }

    /** Promise 1: "No CELLS, BOUNDS, PROMISES." */
    private void newObject() {
        ClockCourt x = new ClockCourt();
        for (int what = 0; what <= 7; what++) {
            due.is("new: count(" + what + ")", x.count(what), 0);
        }
        due.is("new: value(0)", x.value(0), -1);
        due.is("new: either(0)", x.either(0), -1);
        due.is("new: broken(0)", x.broken(0), -1);
        due.is("new: ticks(0, 1)", x.ticks(0, 1), 0);
        due.is("new: bound(0, 1, 0)", x.bound(0, 1, 0), 0);
        due.is("new: walk()", x.walk(), -3);
        due.is("new: state(0, 0)", x.state(0, 0), -1);
        due.is("new: follow(0)", x.follow(0), -1);
        due.is("new: fewest(0)", x.fewest(0), -1);
        due.is("new: shown(0, 0)", x.shown(0, 0), -1);
        due.is("new: never(0, 0)", x.never(0, 0), -1);
        due.is("new: crossings()", x.crossings(), 0);
        due.is("new: crossing(0, 0)", x.crossing(0, 0), -1);
        due.is("new: mend(0)", x.mend(0), -1);
        due.is("new: start()", x.start(), 0);
        due.is("new: moment(15, 7, 7)", x.moment(15, 7, 7), 0);
        for (int d = 0; d < 8; d++) {
            due.is("new: weight(" + d + ")", x.weight(d), -11);
        }
    }

    /** Promise 2: "An INPUT of a CLOCK: its CELL. -1; -2: there are 24 CELLS, or 10 BITS." */
    private void inputs() {
        ClockCourt x = new ClockCourt();
        for (int clock : new int[] {-1, 4, MAX, MIN}) {
            due.is("input(" + clock + ")", x.input(clock), -1);
        }
        for (int i = 0; i < 10; i++) {
            due.is("input(" + i % 4 + ")", x.input(i % 4), i);
            due.is("value(" + i + ")", x.value(i), 0);
            due.is("look(" + i + ", 1)", x.look(i, 1), i % 4);
        }
        due.is("the 11th input", x.input(0), -2);
        due.is("a wrong 11th input", x.input(4), -1);
        due.is("the 11th bit as keeper", x.keeper(0, 1), -2);
        due.is("a gate behind 10 bits", x.gate(0, 0, 9, 0), 10);
        ClockCourt y = busy();
        y.input(9);
        isBusy("a refused input", y);
        y.input(0);
        isAnew("input", y);
    }

    /** Promise 3: "A KEEPER of a CLOCK, with a value at first: its CELL. -1, -2." */
    private void keepers() {
        ClockCourt x = new ClockCourt();
        due.is("keeper(-1, 0)", x.keeper(-1, 0), -1);
        due.is("keeper(4, 0)", x.keeper(4, 0), -1);
        due.is("keeper(0, -1)", x.keeper(0, -1), -1);
        due.is("keeper(0, 2)", x.keeper(0, 2), -1);
        due.is("count(0)", x.count(0), 0);
        for (int i = 0; i < 10; i++) {
            due.is("keeper(3, " + i % 2 + ")", x.keeper(3, i % 2), i);
            due.is("value(" + i + ")", x.value(i), i % 2);
            due.is("look(" + i + ", 2): its own source", x.look(i, 2), i);
        }
        due.is("the 11th keeper", x.keeper(0, 0), -2);
        due.is("a wrong 11th keeper", x.keeper(0, 2), -1);
        due.is("the 11th bit as input", x.input(0), -2);
        x.moment(8, 0, 0);
        for (int i = 0; i < 10; i++) {
            due.is("value(" + i + ") sampled from itself", x.value(i), i % 2);
        }
        ClockCourt y = busy();
        y.keeper(0, 2);
        isBusy("a refused keeper", y);
        y.keeper(2, 0);
        isAnew("keeper", y);
    }

    /** Promise 4: "A GATE (y, z don't matter where it has none): its CELL. -1; -2: there are 24 CELLS." */
    private void gates() {
        ClockCourt x = new ClockCourt();
        due.is("gate of no cell", x.gate(3, 0, 0, 0), -1);
        x.input(0);
        due.is("gate(-1, ..)", x.gate(-1, 0, 0, 0), -1);
        due.is("gate(5, ..)", x.gate(5, 0, 0, 0), -1);
        due.is("x its own number", x.gate(3, 1, 0, 0), -1);
        due.is("x below 0", x.gate(0, -1, 0, 0), -1);
        for (int kind : new int[] {0, 1, 2, 4}) {
            due.is("y out of range", x.gate(kind, 0, 1, 0), -1);
            due.is("y below 0", x.gate(kind, 0, -1, 0), -1);
        }
        due.is("z out of range", x.gate(4, 0, 0, 1), -1);
        due.is("z below 0", x.gate(4, 0, 0, MIN), -1);
        due.is("count(0)", x.count(0), 1);
        due.is("NOT without y, z", x.gate(3, 0, -7, MAX), 1);
        due.is("AND without z", x.gate(0, 0, 1, -1), 2);
        due.is("OR without z", x.gate(1, 1, 2, 24), 3);
        due.is("UNLIKE without z", x.gate(2, 3, 3, MIN), 4);
        due.is("PICK", x.gate(4, 4, 3, 2), 5);
        ClockCourt y = busy();
        y.gate(5, 0, 0, 0);
        isBusy("a refused gate", y);
        y.gate(3, 0, 0, 0);
        isAnew("gate", y);
    }

    /** Terms: "0 AND x y, 1 OR x y, 2 UNLIKE x y, 3 NOT x, 4 PICK x y z (y if x is 1, else z)." */
    private void gateValues() {
        ClockCourt x = new ClockCourt();
        for (int i = 0; i < 3; i++) {
            x.input(0);
        }
        for (int kind = 0; kind <= 4; kind++) {
            x.gate(kind, 0, 1, 2);
        }
        x.gate(2, 7, 3, 0);
        for (int in = 0; in < 8; in++) {
            x.moment(1, in, 0);
            int a = in & 1;
            int b = in >> 1 & 1;
            int c = in >> 2;
            int pick = a == 1 ? b : c;
            due.is("AND of " + in, x.value(3), a & b);
            due.is("OR of " + in, x.value(4), a | b);
            due.is("UNLIKE of " + in, x.value(5), a ^ b);
            due.is("NOT of " + in, x.value(6), 1 - a);
            due.is("PICK of " + in, x.value(7), pick);
            due.is("UNLIKE of PICK, AND of " + in, x.value(8), pick ^ a & b);
        }
    }

    /** Terms: "CELLS 0 .. 23, as they come; each is a bit." */
    private void fullCells() {
        ClockCourt x = new ClockCourt();
        x.input(0);
        for (int i = 1; i < 24; i++) {
            due.is("gate " + i, x.gate(3, i - 1, 0, 0), i);
        }
        due.is("the 25th cell, a gate", x.gate(3, 0, 0, 0), -2);
        due.is("the 25th cell, a wrong gate", x.gate(3, 24, 0, 0), -1);
        due.is("the 25th cell, an input", x.input(1), -2);
        due.is("the 25th cell, a wrong input", x.input(-1), -1);
        due.is("the 25th cell, a keeper", x.keeper(1, 0), -2);
        due.is("value(23)", x.value(23), 1);
        due.is("value(22)", x.value(22), 0);
    }

    /** Promise 5: "The SOURCE of a KEEPER is a CELL (any): the one before. -1." */
    private void connects() {
        ClockCourt x = new ClockCourt();
        x.keeper(0, 1);
        x.input(0);
        x.gate(3, 0, 0, 0);
        x.keeper(0, 0);
        due.is("connect an input", x.connect(1, 0), -1);
        due.is("connect a gate", x.connect(2, 0), -1);
        due.is("connect no cell", x.connect(4, 0), -1);
        due.is("connect(-1, 0)", x.connect(-1, 0), -1);
        due.is("connect to no cell", x.connect(0, 4), -1);
        due.is("connect to -1", x.connect(0, -1), -1);
        due.is("connect to a gate of itself", x.connect(0, 2), 0);
        due.is("connect to a later cell", x.connect(0, 3), 2);
        due.is("connect to itself", x.connect(0, 0), 3);
        due.is("connect to an input", x.connect(0, 1), 0);
        due.is("look(0, 2)", x.look(0, 2), 1);
        ClockCourt y = busy();
        y.connect(2, 0);
        isBusy("a refused connect", y);
        y.connect(0, 2);
        isAnew("connect", y);
    }

    /**
     * Promise 6: "A BOUND on the ticks of c between those of d (not c itself): n, or 0 for none: the one before (0:
     * none). -1."
     */
    private void bounds() {
        ClockCourt x = new ClockCourt();
        due.is("bound(0, 0, 1)", x.bound(0, 0, 1), -1);
        due.is("bound(-1, 0, 1)", x.bound(-1, 0, 1), -1);
        due.is("bound(0, 4, 1)", x.bound(0, 4, 1), -1);
        due.is("bound(4, 0, 1)", x.bound(4, 0, 1), -1);
        due.is("bound(0, 1, 10)", x.bound(0, 1, 10), -1);
        due.is("bound(0, 1, -1)", x.bound(0, 1, -1), -1);
        due.is("bound(0, 1, 9)", x.bound(0, 1, 9), 0);
        due.is("bound(1, 0, 1)", x.bound(1, 0, 1), 0);
        due.is("bound(0, 1, 3)", x.bound(0, 1, 3), 9);
        due.is("bound(0, 1, 0)", x.bound(0, 1, 0), 3);
        due.is("bound(0, 1, 0) again", x.bound(0, 1, 0), 0);
        due.is("bound(1, 0, 2)", x.bound(1, 0, 2), 1);
        ClockCourt y = busy();
        y.bound(0, 1, 10);
        isBusy("a refused bound", y);
        y.bound(0, 1, 1);
        isAnew("bound", y);
    }

    /**
     * Promise 7: "A BIT is told to be still, or not to be: whether it was. -1. (It changes nothing but KINDS of
     * CROSSINGS.)"
     */
    private void stills() {
        ClockCourt x = busy();
        due.is("still of a gate", x.still(1, true), -1);
        due.is("still of no cell", x.still(3, true), -1);
        due.is("still(-1, false)", x.still(-1, false), -1);
        due.is("still(0, false)", x.still(0, false), 0);
        due.is("still(0, true)", x.still(0, true), 0);
        due.is("still(0, true) again", x.still(0, true), 1);
        due.is("still(2, true)", x.still(2, true), 0);
        due.is("still(0, false) behind", x.still(0, false), 1);
        due.is("still(0, false) again", x.still(0, false), 0);
        due.is("still(2, false)", x.still(2, false), 1);
        isBusy("still", x);
    }

    /** Promise 8: "A PROMISE comes (of 3: x not above y): its number. -1; -2: there are 8. (What was walked goes.)" */
    private void promises() {
        ClockCourt x = busy();
        due.is("promise(-1, 0, 0)", x.promise(-1, 0, 0), -1);
        due.is("promise(4, 0, 0)", x.promise(4, 0, 0), -1);
        due.is("x of no cell", x.promise(0, 3, 0), -1);
        due.is("x below 0", x.promise(3, -1, 0), -1);
        for (int kind = 1; kind <= 3; kind++) {
            due.is("y of no cell", x.promise(kind, 0, 3), -1);
            due.is("y below 0", x.promise(kind, 0, -1), -1);
        }
        due.is("x above y of ONE", x.promise(3, 2, 1), -1);
        isBusy("refused promises", x);
        due.is("x above y of AS", x.promise(2, 2, 1), 1);
        due.is("the walk goes", x.count(5), 0);
        due.is("the walk's states go", x.state(0, 0), -1);
        due.is("the run stays", x.count(4), 1);
        due.is("the run's value stays", x.value(0), 1);
        due.is("x above y of NEVER BOTH", x.promise(1, 2, 1), 2);
        due.is("ONE of gates alone", x.promise(3, 1, 1), 3);
        due.is("ALWAYS has no y", x.promise(0, 0, -5), 4);
        for (int p = 5; p < 8; p++) {
            due.is("promise " + p, x.promise(3, 0, 2), p);
        }
        due.is("the 9th promise", x.promise(0, 0, 0), -2);
        due.is("a wrong 9th promise", x.promise(0, 3, 0), -1);
        due.is("count(3)", x.count(3), 8);
    }

    /** Promise 24: "-1 for others." */
    private void counts() {
        ClockCourt x = busy();
        long[] want = {3, 2, 1, 1, 1, 4, 4, 20, -1};
        for (int what = 0; what <= 8; what++) {
            due.is("count(" + what + ")", x.count(what), want[what]);
        }
        due.is("count(-1)", x.count(-1), -1);
        due.is("count(MAX)", x.count(MAX), -1);
        due.is("count(MIN)", x.count(MIN), -1);
    }

    /**
     * Promise 25: "Of a CELL: 0 KIND (0 .. 4 a GATE, 5 INPUT, 6 KEEPER), 1 CLOCK, 2 x or SOURCE, 3 y, 4 z (-2: it has
     * none such). -1."
     */
    private void looks() {
        ClockCourt x = new ClockCourt();
        x.input(2);
        x.keeper(3, 0);
        x.gate(0, 0, 1, 0);
        x.gate(1, 1, 0, 0);
        x.gate(2, 2, 3, 0);
        x.gate(3, 4, 0, 0);
        x.gate(4, 5, 4, 3);
        x.connect(1, 6);
        long[][] want = {
            {5, 2, -2, -2, -2}, {6, 3, 6, -2, -2}, {0, -2, 0, 1, -2}, {1, -2, 1, 0, -2},
            {2, -2, 2, 3, -2}, {3, -2, 4, -2, -2}, {4, -2, 5, 4, 3}};
        for (int cell = 0; cell < want.length; cell++) {
            for (int what = 0; what < 5; what++) {
                due.is("look(" + cell + ", " + what + ")", x.look(cell, what), want[cell][what]);
            }
            due.is("look(" + cell + ", 5)", x.look(cell, 5), -1);
            due.is("look(" + cell + ", -1)", x.look(cell, -1), -1);
        }
        due.is("look(7, 0)", x.look(7, 0), -1);
        due.is("look(-1, 0)", x.look(-1, 0), -1);
        due.is("look(MAX, 0)", x.look(MAX, 0), -1);
    }
}
