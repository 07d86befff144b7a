import java.util.Random;

/** Long runs of calls, good and wrong ones, on the program and on PlainCourt: every answer has to be the same. */
public final class RandomRunsTest {
    private static final int CALLS = 512;

    private final Due due;
    private final Random random;
    private final String name;
    private final ClockCourt court = new ClockCourt();
    private final PlainCourt plain = new PlainCourt();
    private final int clocks;
    private int calls = 0;

    private RandomRunsTest(Due due, long seed) {
        this.due = due;
        this.random = new Random(seed);
        this.name = "run " + seed + ", call ";
        this.clocks = 1 + random.nextInt(4);
    }

    public static void main(String[] args) {
        long runs = args.length > 0 ? Long.parseLong(args[0]) : 600;
        Due due = new Due();
        for (long seed = 1; seed <= runs; seed++) {
            new RandomRunsTest(due, seed).make();
        }
        due.end();
    }

    private void make() {
        int bits = 1 + random.nextInt(random.nextInt(6) == 0 ? 11 : 6);
        int gates = random.nextInt(random.nextInt(6) == 0 ? 20 : 6);
        build(bits, gates);
        while (calls < CALLS) {
            int kind = random.nextInt(100);
            if (kind < 3) {
                changeNet();
            } else if (kind < 5) {
                bound();
            } else if (kind < 7) {
                promise();
            } else if (kind < 35) {
                run();
            } else if (kind < 60) {
                walk();
            } else if (kind < 75) {
                cross();
            } else if (kind < 80) {
                told();
            } else {
                shelf();
            }
        }
    }

    private void is(String call, long got, long want) {
        calls++;
        due.is(name + calls + ": " + call, got, want);
    }

    /** Mostly below n, now and then out of range. */
    private int upTo(int n) {
        int kind = random.nextInt(30);
        if (kind == 0) {
            int[] odd = {-1, n, n + 1, -2, Integer.MAX_VALUE, Integer.MIN_VALUE, 24, 64};
            return odd[random.nextInt(odd.length)];
        }
        return random.nextInt(Math.max(1, n));
    }

    private int cell() {
        return upTo(plain.count(0));
    }

    private int clock() {
        return upTo(clocks);
    }

    private void build(int bits, int gates) {
        int bitsLeft = bits;
        int gatesLeft = gates;
        while (bitsLeft + gatesLeft > 0) {
            if (random.nextInt(bitsLeft + gatesLeft) < bitsLeft) {
                addBit();
                bitsLeft--;
            } else {
                addGate();
                gatesLeft--;
            }
        }
        for (int i = 0; i < bits + gates; i++) {
            if (plain.look(i, 0) == 6 && random.nextInt(5) > 0) {
                connect(i);
            }
        }
        for (int i = random.nextInt(5); i > 0; i--) {
            bound();
        }
        for (int i = random.nextInt(4); i > 0; i--) {
            promise();
        }
    }

    private void addBit() {
        int c = clock();
        if (random.nextInt(3) == 0) {
            is("input(" + c + ")", court.input(c), plain.input(c));
        } else {
            int first = upTo(2);
            is("keeper(" + c + ", " + first + ")", court.keeper(c, first), plain.keeper(c, first));
        }
    }

    private void addGate() {
        int kind = upTo(5);
        int x = cell();
        int y = cell();
        int z = cell();
        is("gate(" + kind + ", " + x + ", " + y + ", " + z + ")", court.gate(kind, x, y, z), plain.gate(kind, x, y, z));
    }

    private void connect(int keeper) {
        int source = cell();
        is("connect(" + keeper + ", " + source + ")", court.connect(keeper, source), plain.connect(keeper, source));
    }

    private void bound() {
        int c = clock();
        int d = clock();
        int n = random.nextInt(3) == 0 ? upTo(10) : upTo(4);
        is("bound(" + c + ", " + d + ", " + n + ")", court.bound(c, d, n), plain.bound(c, d, n));
    }

    private void promise() {
        int kind = upTo(4);
        int x = cell();
        int y = cell();
        is("promise(" + kind + ", " + x + ", " + y + ")", court.promise(kind, x, y), plain.promise(kind, x, y));
    }

    private void changeNet() {
        switch (random.nextInt(5)) {
            case 0 -> addBit();
            case 1 -> addGate();
            case 2 -> {
                int i = upTo(plain.crossings());
                is("mend(" + i + ")", court.mend(i), plain.mend(i));
            }
            default -> connect(cell());
        }
    }

    private void run() {
        int a = cell();
        int c = clock();
        int d = clock();
        int i = upTo(4);
        switch (random.nextInt(8)) {
            case 0 -> is("value(" + a + ")", court.value(a), plain.value(a));
            case 1 -> is("either(" + i + ")", court.either(i), plain.either(i));
            case 2 -> is("ticks(" + c + ", " + d + ")", court.ticks(c, d), plain.ticks(c, d));
            case 3 -> {
                int p = upTo(plain.count(3));
                is("broken(" + p + ")", court.broken(p), plain.broken(p));
            }
            case 4 -> {
                if (random.nextInt(20) == 0) {
                    is("start()", court.start(), plain.start());
                }
            }
            default -> {
                int set = upTo(1 << clocks);
                int inputs = upTo(1024);
                int others = upTo(1024);
                is("moment(" + set + ", " + inputs + ", " + others + ")", court.moment(set, inputs, others),
                    plain.moment(set, inputs, others));
            }
        }
    }

    private void walk() {
        int k = upTo(plain.count(5));
        int a = cell();
        int what = upTo(8);
        int p = upTo(plain.count(3));
        switch (random.nextInt(12)) {
            case 0 -> {
                if (plain.count(5) == 0 || random.nextInt(20) == 0) {
                    is("walk()", court.walk(), plain.walk());
                }
            }
            case 1, 2, 3, 4 -> is("state(" + k + ", " + what + ")", court.state(k, what), plain.state(k, what));
            case 5 -> is("shown(" + k + ", " + a + ")", court.shown(k, a), plain.shown(k, a));
            case 6, 7 -> is("never(" + p + ", " + what + ")", court.never(p, what), plain.never(p, what));
            case 8 -> {
                if (random.nextInt(3) == 0) {
                    is("follow(" + k + ")", court.follow(k), plain.follow(k));
                }
            }
            case 9, 10 -> is("fewest(" + k + ")", court.fewest(k), plain.fewest(k));
            default -> is("count(" + what + ")", court.count(what), plain.count(what));
        }
    }

    private void cross() {
        int i = upTo(plain.crossings());
        int what = upTo(5);
        if (random.nextInt(6) == 0) {
            is("crossings()", court.crossings(), plain.crossings());
        } else {
            is("crossing(" + i + ", " + what + ")", court.crossing(i, what), plain.crossing(i, what));
        }
    }

    private void told() {
        int a = cell();
        int what = upTo(5);
        boolean is = random.nextBoolean();
        if (random.nextInt(3) == 0) {
            is("still(" + a + ", " + is + ")", court.still(a, is), plain.still(a, is));
        } else {
            is("look(" + a + ", " + what + ")", court.look(a, what), plain.look(a, what));
        }
    }

    private void shelf() {
        int d = upTo(8);
        int e = upTo(8);
        int i = upTo(12);
        int j = upTo(12);
        int what = upTo(5);
        switch (random.nextInt(7)) {
            case 0 -> {
                int a = cell();
                is("keep(" + d + ", " + what + ", " + a + ")", court.keep(d, what, a), plain.keep(d, what, a));
            }
            case 1 -> {
                int n = upTo(61);
                is("make(" + d + ", " + what + ", " + n + ")", court.make(d, what, n), plain.make(d, what, n));
            }
            case 2 -> is("element(" + d + ", " + i + ")", Due.element(court, d, i), plain.element(d, i));
            case 3, 4 -> {
                int n = upTo(12);
                is("copy(" + d + ", " + i + ", " + e + ", " + j + ", " + n + ")", court.copy(d, i, e, j, n),
                    plain.copy(d, i, e, j, n));
            }
            case 5 -> is("weight(" + d + ")", court.weight(d), plain.weight(d));
            default -> is("toss(" + d + ")", court.toss(d), plain.toss(d));
        }
    }
}
