import java.util.Random;

/**
 * Runs of calls on nets of shapes that hardly come by chance, with small changes in them, on the program and on
 * PlainCourt: every answer has to be the same. What such runs are made for has to be seen in them.
 */
public final class ShapedRunsTest {
    private static final int CALLS = 512;
    // A round asks twice at most of all crossings, of which there are ten, five answers each.
    private static final int CALLS_OF_A_ROUND = 110;

    private final Due due;
    private final Seldom seldom;
    private final Random random;
    private final String name;
    private final ClockCourt court = new ClockCourt();
    private final PlainCourt plain = new PlainCourt();
    private int calls = 0;

    /** What was seen in all runs. */
    private static final class Seldom {
        final int[] kinds = new int[5];
        int meets = 0;
        int mended = 0;
        int fullRuns = 0;
        int farStates = 0;
        int noWays = 0;
        int dearWays = 0;
    }

    private ShapedRunsTest(Due due, Seldom seldom, long seed) {
        this.due = due;
        this.seldom = seldom;
        this.random = new Random(seed);
        this.name = "shaped run " + seed + ", call ";
    }

    public static void main(String[] args) {
        long runs = args.length > 0 ? Long.parseLong(args[0]) : 300;
        Due due = new Due();
        Seldom seldom = new Seldom();
        for (long seed = 1; seed <= runs; seed++) {
            for (int shape = 0; shape < 3; shape++) {
                new ShapedRunsTest(due, seldom, seed).make(shape);
            }
        }
        for (int kind = 0; kind < 5; kind++) {
            seen(due, "crossings of kind " + kind, seldom.kinds[kind]);
        }
        seen(due, "crossings that meet", seldom.meets);
        seen(due, "mended crossings", seldom.mended);
        seen(due, "runs of 60 moments", seldom.fullRuns);
        seen(due, "states more than 60 moments away", seldom.farStates);
        seen(due, "states to which no way leads", seldom.noWays);
        seen(due, "ways by two others and more", seldom.dearWays);
        due.end();
    }

    private static void seen(Due due, String what, int times) {
        due.is(what + " were seen", times >= 20 ? 1 : 0, 1);
    }

    private void make(int shape) {
        switch (shape) {
            case 0 -> crossings();
            case 1 -> longRuns();
            default -> ways();
        }
        due.is(name + calls + " is one of its calls", calls <= CALLS ? 1 : 0, 1);
    }

    private long is(String call, long got, long want) {
        calls++;
        due.is(name + calls + ": " + call, got, want);
        return want;
    }

    private int input(int c) {
        return (int) is("input(" + c + ")", court.input(c), plain.input(c));
    }

    private int keeper(int c) {
        int first = random.nextInt(2);
        return (int) is("keeper(" + c + ", " + first + ")", court.keeper(c, first), plain.keeper(c, first));
    }

    private int gate(int kind, int x, int y, int z) {
        return (int) is("gate(" + kind + ", " + x + ", " + y + ", " + z + ")", court.gate(kind, x, y, z),
            plain.gate(kind, x, y, z));
    }

    private int connect(int keeper, int source) {
        return (int) is("connect(" + keeper + ", " + source + ")", court.connect(keeper, source),
            plain.connect(keeper, source));
    }

    private void bound(int c, int d, int n) {
        is("bound(" + c + ", " + d + ", " + n + ")", court.bound(c, d, n), plain.bound(c, d, n));
    }

    private void promise(int kind, int x, int y) {
        is("promise(" + kind + ", " + x + ", " + y + ")", court.promise(kind, x, y), plain.promise(kind, x, y));
    }

    private int anyCell() {
        return random.nextInt(plain.count(0));
    }

    /** A bit of another clock than c, an input or a keeper. */
    private int foreign(int c) {
        int other = (c + 1 + random.nextInt(3)) % 4;
        return random.nextBoolean() ? input(other) : keeper(other);
    }

    private int sampler(int c, int source) {
        int k = keeper(c);
        connect(k, source);
        return k;
    }

    /** Data that is held by an asking which is sampled twice; often a second one beside it. */
    private void crossings() {
        int c = random.nextInt(4);
        int data = foreign(c);
        int asking = foreign(c);
        int second = sampler(c, sampler(c, asking));
        hold(c, second, data);
        if (random.nextBoolean()) {
            hold(c, second, random.nextBoolean() ? data : asking);
        }
        if (random.nextBoolean()) {
            sampler(c, sampler(c, random.nextInt(3) == 0 ? data : asking));
        }
        allCrossings();
        while (calls < CALLS - CALLS_OF_A_ROUND) {
            change();
            allCrossings();
        }
    }

    private void hold(int c, int when, int data) {
        int k = keeper(c);
        connect(k, gate(4, when, data, k));
    }

    private void allCrossings() {
        int n = (int) is("crossings()", court.crossings(), plain.crossings());
        for (int i = 0; i < n; i++) {
            for (int what = 0; what < 5; what++) {
                long want = is("crossing(" + i + ", " + what + ")", court.crossing(i, what), plain.crossing(i, what));
                if (what == 1) {
                    seldom.kinds[(int) want]++;
                } else if (what == 2) {
                    seldom.meets += (int) want;
                }
            }
        }
    }

    /** Most changes are taken back, so that the shape is not lost. */
    private void change() {
        int kind = random.nextInt(10);
        if (kind < 5) {
            int k = anyCell();
            int before = connect(k, anyCell());
            if (before >= 0) {
                allCrossings();
                connect(k, before);
            }
        } else if (kind < 7) {
            int bit = anyCell();
            boolean still = random.nextInt(3) == 0;
            is("still(" + bit + ", " + still + ")", court.still(bit, still), plain.still(bit, still));
        } else if (kind < 8) {
            gate(random.nextInt(5), anyCell(), anyCell(), anyCell());
        } else if (kind < 9) {
            connect(anyCell(), anyCell());
        } else {
            int i = random.nextInt(plain.crossings() + 1);
            int cell = (int) is("mend(" + i + ")", court.mend(i), plain.mend(i));
            seldom.mended += cell >= 0 ? 1 : 0;
        }
    }

    /** Keepers that count up, so that states are many moments away; runs go on beyond their 60 moments. */
    private void longRuns() {
        int digits = 5 + random.nextInt(4);
        int c = random.nextInt(4);
        counter(digits, c);
        int watching = sampler((c + 1) % 4, random.nextInt(digits));
        bound((c + 1) % 4, c, random.nextInt(3));
        promise(2, watching, plain.look(watching, 2));
        promise(3, 0, watching);
        for (int m = 0; m < 70; m++) {
            moment(random.nextInt(3) == 0 ? 1 + random.nextInt(15) : 1 << c);
            askRun(watching);
        }
        seldom.fullRuns += plain.count(4) == 60 ? 1 : 0;
        is("walk()", court.walk(), plain.walk());
        while (calls < CALLS - CALLS_OF_A_ROUND) {
            int k = random.nextInt(plain.count(5));
            askState(k, watching);
            if (is("follow(" + k + ")", court.follow(k), plain.follow(k)) == -3) {
                seldom.farStates++;
            }
            askRun(watching);
        }
        for (int p = 0; p < 2; p++) {
            for (int what = 0; what < 5; what++) {
                is("never(" + p + ", " + what + ")", court.never(p, what), plain.never(p, what));
            }
        }
    }

    private void counter(int digits, int c) {
        for (int i = 0; i < digits; i++) {
            keeper(c);
        }
        connect(0, gate(3, 0, 0, 0));
        int carry = 0;
        for (int i = 1; i < digits; i++) {
            connect(i, gate(2, i, carry, 0));
            carry = gate(0, i, carry, 0);
        }
    }

    private void moment(int set) {
        int inputs = random.nextInt(8);
        int others = random.nextInt(8);
        is("moment(" + set + ", " + inputs + ", " + others + ")", court.moment(set, inputs, others),
            plain.moment(set, inputs, others));
    }

    private void askRun(int cell) {
        is("value(" + cell + ")", court.value(cell), plain.value(cell));
        int p = random.nextInt(2);
        is("broken(" + p + ")", court.broken(p), plain.broken(p));
    }

    private void askState(int k, int cell) {
        int what = random.nextInt(7);
        is("state(" + k + ", " + what + ")", court.state(k, what), plain.state(k, what));
        is("shown(" + k + ", " + cell + ")", court.shown(k, cell), plain.shown(k, cell));
    }

    /** Samplers of bits of several clocks: their states come by many ways, by few others or by many. */
    private void ways() {
        int c = random.nextInt(3);
        int source = random.nextBoolean() ? input(3) : keeper(3);
        if (plain.look(source, 0) == 6) {
            connect(source, gate(3, source, 0, 0));
        }
        int samplers = 3 + random.nextInt(4);
        for (int i = 0; i < samplers; i++) {
            sampler(random.nextInt(3) == 0 ? (c + 1) % 3 : c, source);
        }
        if (random.nextBoolean()) {
            bound(c, 3, 1 + random.nextInt(3));
        }
        if (random.nextBoolean()) {
            bound(3, c, 1 + random.nextInt(2));
        }
        int states = (int) is("walk()", court.walk(), plain.walk());
        is("count(6)", court.count(6), plain.count(6));
        is("count(7)", court.count(7), plain.count(7));
        int all = states < 0 ? -2 - states : states;
        for (int i = 0; i < 200; i++) {
            int k = all <= 200 ? i % all : all - 1 - i;
            long fewest = is("fewest(" + k + ")", court.fewest(k), plain.fewest(k));
            seldom.noWays += fewest == -2 ? 1 : 0;
            seldom.dearWays += fewest >= 2 ? 1 : 0;
            askState(k, random.nextInt(samplers));
            if (calls > CALLS - CALLS_OF_A_ROUND) {
                return;
            }
        }
    }
}
