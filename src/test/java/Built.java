/** Objects from which several tests start: each is made by some hundred calls at most, so that 400 more are left. */
final class Built {
    private Built() {
    }

    /**
     * Every kind of thing is there, and of each there is place for one more. Input 0 of clock 0; keepers 1 (TWICE)
     * and 2 of clock 1; keeper 3 of clock 2, PLAIN; PICK 4; NOT 5; input 6 of clock 3, which is still. Five moments,
     * by the latest of which keeper 3 was EITHER; one tick more of clock 0 alone would break a bound. It was walked.
     */
    static ClockCourt busy() {
        ClockCourt x = busyNet();
        x.moment(9, 1, 0);
        x.moment(6, 0, 0);
        x.moment(3, 0, 1);
        x.moment(1, 1, 0);
        x.moment(5, 0, 0);
        x.walk();
        x.keep(0, 1, 3);
        x.keep(1, 1, 4);
        x.keep(2, 3, 0);
        x.keep(3, 4, 0);
        x.make(4, 3, 2);
        x.make(5, 4, 60);
        x.keep(6, 1, 0);
        return x;
    }

    /** As busy, but nothing was walked, the run is at the beginning, and no shelf holds something. */
    static ClockCourt busyNet() {
        ClockCourt x = new ClockCourt();
        x.input(0);
        x.keeper(1, 0);
        x.keeper(1, 1);
        x.keeper(2, 0);
        x.gate(4, 2, 0, 3);
        x.gate(3, 2, 0, 0);
        x.input(3);
        x.connect(1, 0);
        x.connect(2, 1);
        x.connect(3, 0);
        x.still(6, true);
        x.bound(0, 1, 2);
        x.bound(3, 2, 1);
        x.promise(0, 3, 0);
        x.promise(1, 0, 2);
        x.promise(3, 0, 6);
        x.promise(2, 0, 0);
        return x;
    }

    /**
     * Nothing has place for one more: 24 cells with 10 bits among them, 8 promises, 60 moments, a walk that is SPENT.
     * Input 0 of clock 0; keeper 1 of clock 1, PLAIN; keepers 2 (TWICE) and 3 of clock 1; inputs 4 .. 9; gates
     * 10 .. 23. One tick more of clock 0 alone would break a bound.
     */
    static ClockCourt full() {
        ClockCourt x = new ClockCourt();
        x.input(0);
        x.keeper(1, 1);
        x.keeper(1, 0);
        x.keeper(1, 0);
        for (int i = 4; i < 10; i++) {
            x.input(i % 4);
        }
        x.gate(0, 1, 3, 0);
        for (int i = 11; i < 24; i++) {
            x.gate(3, i - 1, 0, 0);
        }
        x.connect(1, 0);
        x.connect(2, 0);
        x.connect(3, 2);
        x.bound(0, 1, 1);
        for (int p = 0; p < 8; p++) {
            x.promise(p % 4, p, p + 9);
        }
        for (int m = 0; m < 59; m++) {
            x.moment(15, m, m);
        }
        x.moment(1, 1, 0);
        x.walk();
        x.keep(0, 1, 23);
        x.keep(7, 4, 0);
        return x;
    }
}
