/**
 * What it is: "An object is used for at most 512 calls after it has been made; what later calls answer is free." So
 * the 512th answers as the first one would, and what 511 calls have made is there.
 */
public final class LastCallTest {
    private static final int CALLS = 512;

    private final Due due = new Due();

    public static void main(String[] args) {
        LastCallTest t = new LastCallTest();
        t.moments();
        t.refused();
        t.walks();
        t.nets();
        t.shelves();
        t.tosses();
        t.due.end();
    }

    /** A keeper turns over, and is set to the beginning when its run is full. */
    private void moments() {
        ClockCourt x = new ClockCourt();
        x.keeper(0, 0);
        x.connect(0, x.gate(3, 0, 0, 0));
        int had = 0;
        for (int call = 4; call < CALLS; call++) {
            if (had == 60) {
                due.is("start() as call " + call, x.start(), 60);
                had = 0;
            } else {
                due.is("moment as call " + call, x.moment(1, 0, 0), 0);
                had++;
            }
        }
        due.is("value(0) as the last call", x.value(0), had % 2);
    }

    /** Promise 2: "-2: there are 24 CELLS, or 10 BITS.": however often it is told. */
    private void refused() {
        ClockCourt x = new ClockCourt();
        for (int i = 0; i < 10; i++) {
            x.input(0);
        }
        for (int call = 11; call < CALLS; call++) {
            due.is("the 11th bit as call " + call, call % 2 == 0 ? x.input(3) : x.keeper(3, 1), -2);
        }
        due.is("count(1) as the last call", x.count(1), 10);
    }

    /** Each walk is made anew, since a bound changes between them. */
    private void walks() {
        ClockCourt x = new ClockCourt();
        x.keeper(0, 0);
        for (int call = 2; call < CALLS; call += 2) {
            int n = call / 2 % 10;
            due.is("bound as call " + call, x.bound(0, 1, n), (n + 9) % 10);
            due.is("walk() as call " + (call + 1), x.walk(), n + 1);
        }
        due.is("count(5) as the last call", x.count(5), 255 % 10 + 1);
    }

    /** The source of the last keeper goes from cell to cell. */
    private void nets() {
        ClockCourt x = new ClockCourt();
        for (int i = 0; i < 10; i++) {
            x.keeper(i % 4, i % 2);
        }
        int before = 9;
        for (int call = 11; call < CALLS; call++) {
            due.is("connect as call " + call, x.connect(9, call % 10), before);
            before = call % 10;
        }
        due.is("look(9, 2) as the last call", x.look(9, 2), 511 % 10);
    }

    /** The longest rows, on all shelves. */
    private void shelves() {
        ClockCourt x = new ClockCourt();
        x.moment(15, 0, 0);
        x.keep(0, 4, 0);
        for (int call = 3; call < CALLS - 1; call++) {
            due.is("make as call " + call, x.make(1 + call % 7, 3 + call % 2, 60), 0);
        }
        // Call 509 was the latest one that made ints.
        due.is("copy as call 511", x.copy(0, 0, 1 + 509 % 7, 59, 1), 1);
        due.is("element as the last call", Due.element(x, 1 + 509 % 7, 59), 15);
    }

    private void tosses() {
        ClockCourt x = new ClockCourt();
        x.input(2);
        x.keep(5, 1, 0);
        for (int call = 3; call <= CALLS; call++) {
            due.is("toss as call " + call, x.toss(5), 2);
        }
    }
}
