/** Promises 9 to 14: the run, moment by moment. */
public final class RunTest {
    private final Due due = new Due();

    public static void main(String[] args) {
        RunTest t = new RunTest();
        t.refusals();
        t.longest();
        t.inputsOfClocksThatTick();
        t.onlyTicking();
        t.eitherBySource();
        t.neverEitherOfOwnClock();
        t.neverEitherByOneBit();
        t.eitherByTwoBits();
        t.eitherHidden();
        t.eitherByPlainOfKeepers();
        t.severalEithers();
        t.eitherOfTenBits();
        t.bounds();
        t.boundOfClocksWithoutBits();
        t.broken();
        t.brokenOne();
        t.due.end();
    }

    /** Promise 10: "-1: CLOCKS not 1 .. 15, another number below 0". Promise 13: "-1: CLOCKS, or c is d." */
    private void refusals() {
        ClockCourt x = new ClockCourt();
        x.input(0);
        due.is("moment(1, 1, 0)", x.moment(1, 1, 0), 0);
        due.is("moment(0, 0, 0)", x.moment(0, 0, 0), -1);
        due.is("moment(16, 0, 0)", x.moment(16, 0, 0), -1);
        due.is("moment(-1, 0, 0)", x.moment(-1, 0, 0), -1);
        due.is("moment(1, -1, 0)", x.moment(1, -1, 0), -1);
        due.is("moment(1, 0, -1)", x.moment(1, 0, -1), -1);
        due.is("value(0) behind refusals", x.value(0), 1);
        due.is("count(4) behind refusals", x.count(4), 1);
        due.is("value(1)", x.value(1), -1);
        due.is("value(-1)", x.value(-1), -1);
        due.is("moment(15, 0, 0)", x.moment(15, 0, 0), 0);
        due.is("value(0)", x.value(0), 0);
        due.is("start()", x.start(), 2);
        due.is("start() again", x.start(), 0);
        due.is("ticks(0, 0)", x.ticks(0, 0), -1);
        due.is("ticks(-1, 0)", x.ticks(-1, 0), -1);
        due.is("ticks(0, 4)", x.ticks(0, 4), -1);
        due.is("ticks(3, 0)", x.ticks(3, 0), 0);
        due.is("broken(0)", x.broken(0), -1);
    }

    /** Promise 10: "-2: a BOUND would be broken; -3: it had 60." Promise 9: "how many MOMENTS it had." */
    private void longest() {
        ClockCourt x = new ClockCourt();
        x.input(0);
        x.bound(0, 1, 1);
        for (int m = 0; m < 59; m++) {
            due.is("moment " + m, x.moment(2, 0, 0), 0);
        }
        due.is("the 60th moment", x.moment(1, 1, 0), 0);
        due.is("the 61st moment", x.moment(2, 0, 0), -3);
        due.is("the 61st moment, a bound too", x.moment(1, 0, 0), -2);
        due.is("the 61st moment, a wrong one too", x.moment(0, 0, 0), -1);
        due.is("value(0) behind the refused ones", x.value(0), 1);
        due.is("ticks(0, 1) behind the refused ones", x.ticks(0, 1), 1);
        due.is("start() behind 60", x.start(), 60);
        due.is("ticks(0, 1) at the beginning", x.ticks(0, 1), 0);
        due.is("value(0) at the beginning", x.value(0), 0);
        due.is("a moment from the beginning", x.moment(1, 1, 0), 0);
    }

    /**
     * Terms: "the values of the INPUTS that tick (bit i: the i-th of these, by CELLS)"; "Bits of no INPUT, KEEPER are
     * not looked at."
     */
    private void inputsOfClocksThatTick() {
        ClockCourt x = new ClockCourt();
        x.input(0);
        x.input(1);
        x.keeper(1, 0);
        x.input(0);
        x.input(1);
        x.moment(2, 2, 0);
        due.is("clock 0's first input", x.value(0), 0);
        due.is("clock 1's first input", x.value(1), 0);
        due.is("clock 0's second input", x.value(3), 0);
        due.is("clock 1's second input", x.value(4), 1);
        x.moment(3, 1 + 4 + 1024 + (1 << 30), 1 << 30);
        due.is("the first of four", x.value(0), 1);
        due.is("the second of four", x.value(1), 0);
        due.is("the third of four", x.value(3), 1);
        due.is("the fourth of four", x.value(4), 0);
        x.moment(12, 15, 0);
        due.is("no clock of theirs", x.value(1), 0);
        x.moment(1, 2, 0);
        due.is("clock 0's first input again", x.value(0), 0);
        due.is("clock 0's second input again", x.value(3), 1);
    }

    /** Terms: "Each KEEPER of one that ticks samples: PLAIN it becomes what its SOURCE was ahead of the MOMENT." */
    private void onlyTicking() {
        ClockCourt x = new ClockCourt();
        x.keeper(0, 1);
        x.keeper(1, 0);
        x.connect(1, 0);
        x.keeper(1, 0);
        x.connect(2, 1);
        due.is("clock 0 alone", x.moment(1, 0, 0), 0);
        due.is("value(1) didn't sample", x.value(1), 0);
        x.moment(2, 0, 0);
        due.is("value(1) sampled", x.value(1), 1);
        due.is("value(2) sampled what was before", x.value(2), 0);
        x.moment(2, 0, 0);
        due.is("value(2) sampled", x.value(2), 1);
    }

    /**
     * Terms: "it becomes then what is chosen: PLAIN, or the other value." Promise 12: "KEEPER i, from 0, of those that
     * were EITHER in its latest MOMENT."
     */
    private void eitherBySource() {
        ClockCourt x = new ClockCourt();
        x.input(0);
        x.keeper(1, 0);
        x.connect(1, 0);
        due.is("either(0) at the beginning", x.either(0), -1);
        due.is("the input stays", x.moment(3, 0, 1), 0);
        due.is("value(1): nothing was either", x.value(1), 0);
        due.is("the input changes", x.moment(3, 1, 0), 1);
        due.is("value(1) PLAIN", x.value(1), 0);
        due.is("either(0)", x.either(0), 1);
        due.is("either(1)", x.either(1), -1);
        due.is("either(-1)", x.either(-1), -1);
        due.is("the input changes back", x.moment(3, 0, 3), 1);
        due.is("value(1) the other", x.value(1), 0);
        due.is("clock 0 alone", x.moment(1, 1, 1), 0);
        due.is("either(0) of the latest alone", x.either(0), -1);
        due.is("clock 1 alone", x.moment(2, 0, 1), 0);
        due.is("value(1) PLAIN without another clock", x.value(1), 1);
        due.is("the last one", x.moment(3, 0, 1), 1);
        due.is("value(1) the other again", x.value(1), 0);
        x.start();
        due.is("either(0) behind start", x.either(0), -1);
    }

    /** Terms: "each CHANGING BIT of another CLOCK than its own": one of its own clock is none. */
    private void neverEitherOfOwnClock() {
        ClockCourt x = new ClockCourt();
        x.input(2);
        x.keeper(2, 0);
        x.connect(1, 0);
        due.is("its own clock changes", x.moment(15, 1, 1), 0);
        due.is("value(1)", x.value(1), 0);
    }

    /** Terms: "if its SOURCE has both values": a gate that always has one value. */
    private void neverEitherByOneBit() {
        ClockCourt x = new ClockCourt();
        x.input(0);
        x.gate(3, 0, 0, 0);
        x.gate(0, 0, 1, 0);
        x.keeper(1, 0);
        x.connect(3, 2);
        due.is("x AND NOT x has one value", x.moment(3, 1, 1), 0);
        due.is("value(3)", x.value(3), 0);
    }

    /** Terms: "in all ways": both values come, though the first way and the last one have the same. */
    private void eitherByTwoBits() {
        ClockCourt x = new ClockCourt();
        x.input(0);
        x.input(2);
        x.gate(2, 0, 1, 0);
        x.keeper(1, 0);
        x.connect(3, 2);
        due.is("both change together", x.moment(7, 3, 1), 1);
        due.is("either(0)", x.either(0), 3);
        due.is("value(3) was neither before nor behind", x.value(3), 1);
        due.is("value(2)", x.value(2), 0);
        due.is("both change back", x.moment(7, 0, 0), 1);
        due.is("value(3) PLAIN", x.value(3), 0);
    }

    /** Terms: "and all other BITS have their old one". */
    private void eitherHidden() {
        ClockCourt x = new ClockCourt();
        x.input(0);
        x.input(1);
        x.gate(0, 0, 1, 0);
        x.keeper(1, 0);
        x.connect(3, 2);
        due.is("a bit of its own clock has its old value", x.moment(3, 3, 1), 0);
        due.is("value(3)", x.value(3), 0);
        due.is("both are 1", x.value(2), 1);
        due.is("now the other clock's bit is seen", x.moment(3, 2, 1), 1);
        due.is("value(3) the other", x.value(3), 0);
    }

    /** Terms: "KEEPERS whose PLAIN value is another than theirs." */
    private void eitherByPlainOfKeepers() {
        // Keeper 0 turns over; 2 samples it, 3 samples 2 by another clock.
        ClockCourt x = new ClockCourt();
        x.keeper(0, 0);
        x.gate(3, 0, 0, 0);
        x.connect(0, 1);
        x.keeper(1, 0);
        x.connect(2, 0);
        x.keeper(2, 0);
        x.connect(3, 2);
        due.is("only 2 is either: PLAIN it stays", x.moment(7, 0, 1), 1);
        due.is("either(0)", x.either(0), 2);
        due.is("value(0)", x.value(0), 1);
        due.is("value(2)", x.value(2), 1);
        due.is("value(3)", x.value(3), 0);
        due.is("2 stays PLAIN at 1, 0 changes", x.moment(7, 0, 0), 1);
        due.is("value(2) PLAIN", x.value(2), 1);
        due.is("value(3) PLAIN", x.value(3), 1);
        due.is("2 changes PLAIN, so 3 is either too", x.moment(7, 0, 2), 2);
        due.is("either(0) of two", x.either(0), 2);
        due.is("either(1) of two", x.either(1), 3);
        due.is("either(2) of two", x.either(2), -1);
        due.is("value(2) PLAIN again", x.value(2), 0);
        due.is("value(3) the other", x.value(3), 0);
    }

    /** Terms: "which of the KEEPERS that are EITHER become the other value (bit i: the i-th of these, by CELLS)". */
    private void severalEithers() {
        ClockCourt x = new ClockCourt();
        x.keeper(1, 0);
        x.keeper(0, 0);
        x.keeper(1, 1);
        x.input(3);
        x.keeper(2, 1);
        x.connect(0, 3);
        x.connect(2, 3);
        x.connect(4, 3);
        due.is("three of them", x.moment(15, 1, 5), 3);
        due.is("either(0)", x.either(0), 0);
        due.is("either(1)", x.either(1), 2);
        due.is("either(2)", x.either(2), 4);
        due.is("value(0): bit 0", x.value(0), 1);
        due.is("value(2): bit 1", x.value(2), 0);
        due.is("value(4): bit 2", x.value(4), 1);
        due.is("value(1)", x.value(1), 0);
        due.is("without clock 1", x.moment(12, 0, 1), 1);
        due.is("either(0) of clock 2", x.either(0), 4);
        due.is("value(4)", x.value(4), 0);
    }

    /**
     * Terms: "each CHANGING BIT of another CLOCK than its own has its old, or its new (PLAIN, or chosen) value, in all
     * ways".
     */
    private void eitherOfTenBits() {
        // Keeper 0 samples AND of inputs 7, 8, 9; keeper 1, of the inputs' clock, samples the same.
        ClockCourt x = new ClockCourt();
        x.keeper(0, 0);
        x.keeper(1, 0);
        for (int i = 2; i < 10; i++) {
            x.input(1);
        }
        x.gate(0, 7, 8, 0);
        x.gate(0, 10, 9, 0);
        x.connect(0, 11);
        x.connect(1, 11);
        int seven = 1 << 5;
        int eight = 1 << 6;
        int nine = 1 << 7;
        due.is("7, 8 change, 9 is 0", x.moment(3, seven + eight, 1), 0);
        due.is("9 changes, 7, 8 are 1", x.moment(3, seven + eight + nine, 1), 1);
        due.is("value(0) the other", x.value(0), 1);
        due.is("value(11)", x.value(11), 1);
        due.is("inputs 2, 3 change alone", x.moment(3, seven + eight + nine + 3, 1), 0);
        due.is("value(0) PLAIN", x.value(0), 1);
        due.is("value(1) PLAIN", x.value(1), 1);
        due.is("7 falls", x.moment(3, eight + nine, 1), 1);
        due.is("value(0) the other again", x.value(0), 0);
        due.is("8 falls, 7 is 0", x.moment(3, nine, 1), 0);
        due.is("7, 8 come, 9 goes: for a while all may be 1", x.moment(3, seven + eight, 1), 1);
        due.is("value(0) behind that", x.value(0), 1);
        // UNLIKE of a low bit and a high one.
        x.connect(0, x.gate(2, 2, 9, 0));
        due.is("2 and 9 change together", x.moment(3, 1 + nine, 1), 1);
        due.is("value(12)", x.value(12), 0);
        due.is("value(0) of UNLIKE", x.value(0), 1);
        due.is("neither changes", x.moment(3, 1 + nine + 14, 1), 0);
        due.is("value(0) of both", x.value(0), 0);
    }

    /**
     * Terms: "the ticks of c since the latest MOMENT in which d ticked (not of that MOMENT itself) are n at most."
     * Promise 13: "The ticks of c that the BOUND on c, d looks at; 0 without one."
     */
    private void bounds() {
        ClockCourt x = new ClockCourt();
        x.input(0);
        x.input(1);
        x.bound(0, 1, 2);
        x.bound(0, 2, 3);
        due.is("clock 0", x.moment(1, 1, 0), 0);
        due.is("clock 0 again", x.moment(1, 1, 0), 0);
        due.is("ticks(0, 1)", x.ticks(0, 1), 2);
        due.is("ticks(0, 2)", x.ticks(0, 2), 2);
        due.is("ticks(1, 0) has no bound", x.ticks(1, 0), 0);
        due.is("clock 0 once too often", x.moment(1, 0, 0), -2);
        due.is("value(0) behind a refused one", x.value(0), 1);
        due.is("ticks(0, 1) behind a refused one", x.ticks(0, 1), 2);
        due.is("both: its own tick isn't counted", x.moment(3, 0, 0), 0);
        due.is("ticks(0, 1) behind both", x.ticks(0, 1), 0);
        due.is("ticks(0, 2) behind both", x.ticks(0, 2), 3);
        due.is("the other bound is broken", x.moment(3, 0, 0), -2);
        due.is("clock 1 alone", x.moment(2, 0, 0), 0);
        due.is("ticks(1, 0)", x.ticks(1, 0), 0);
        due.is("clock 2 with clock 0", x.moment(5, 1, 0), 0);
        due.is("ticks(0, 2) behind clock 2", x.ticks(0, 2), 0);
        due.is("ticks(0, 1) goes on", x.ticks(0, 1), 1);
        x.bound(0, 2, 0);
        due.is("ticks(0, 1) behind another bound", x.ticks(0, 1), 0);
        x.moment(1, 0, 0);
        due.is("ticks(0, 2) without a bound", x.ticks(0, 2), 0);
        due.is("ticks(0, 1) with one", x.ticks(0, 1), 1);
    }

    /** Terms: "BOUNDS: for two CLOCKS c, d a number n (1 .. 9)": of clocks that no bit has. */
    private void boundOfClocksWithoutBits() {
        ClockCourt x = new ClockCourt();
        x.bound(3, 2, 9);
        for (int i = 0; i < 9; i++) {
            due.is("clock 3, no cells", x.moment(8 + i % 4, 0, 0), 0);
        }
        due.is("ticks(3, 2)", x.ticks(3, 2), 9);
        due.is("clock 3 once too often", x.moment(11, 0, 0), -2);
        due.is("clock 2 too", x.moment(12, 0, 0), 0);
        due.is("ticks(3, 2) behind clock 2", x.ticks(3, 2), 0);
    }

    /**
     * Promise 14: "The first MOMENT of THE RUN (from 1; 0: the beginning) by which a PROMISE was broken; -2: none.
     * -1."
     */
    private void broken() {
        ClockCourt x = new ClockCourt();
        x.input(0);
        x.input(0);
        due.is("ALWAYS", x.promise(0, 0, 0), 0);
        due.is("NEVER BOTH", x.promise(1, 0, 1), 1);
        due.is("AS", x.promise(2, 0, 1), 2);
        due.is("broken(0) at the beginning", x.broken(0), 0);
        due.is("broken(1) not", x.broken(1), -2);
        due.is("broken(2) not", x.broken(2), -2);
        due.is("broken(3)", x.broken(3), -1);
        due.is("broken(-1)", x.broken(-1), -1);
        x.moment(1, 3, 0);
        due.is("broken(1) by the first moment", x.broken(1), 1);
        due.is("broken(2) not yet", x.broken(2), -2);
        x.moment(1, 2, 0);
        x.moment(1, 3, 0);
        x.moment(1, 1, 0);
        due.is("broken(1) first", x.broken(1), 1);
        due.is("broken(2) first", x.broken(2), 2);
        due.is("broken(0) still", x.broken(0), 0);
        x.start();
        due.is("broken(1) behind start", x.broken(1), -2);
        due.is("broken(0) behind start", x.broken(0), 0);
        x.moment(1, 1, 0);
        due.is("a promise that comes later", x.promise(2, 0, 1), 3);
        due.is("was broken before it came", x.broken(3), 1);
    }

    /**
     * Terms: "3 ONE x y: of the BITS from CELL x to CELL y at most one is another than ahead of the MOMENT (at the
     * beginning: it is kept)."
     */
    private void brokenOne() {
        ClockCourt x = new ClockCourt();
        x.input(0);
        x.gate(3, 0, 0, 0);
        x.keeper(1, 1);
        x.input(0);
        x.promise(3, 0, 3);
        x.promise(3, 1, 3);
        x.promise(3, 1, 1);
        x.promise(3, 0, 2);
        due.is("ONE is kept at the beginning", x.broken(0), -2);
        x.moment(1, 1, 0);
        due.is("one bit and a gate are others", x.broken(0), -2);
        x.moment(1, 1, 0);
        x.moment(1, 2, 0);
        due.is("two bits are others", x.broken(0), 3);
        due.is("one of them lies between", x.broken(1), -2);
        due.is("no bit lies between", x.broken(2), -2);
        due.is("the other lies between", x.broken(3), -2);
    }
}
