import java.util.Arrays;

/**
 * A judge for circuits of several clocks: bits that are sampled while they change come out either way, runs are made
 * moment by moment or gone through all, promises are kept or broken by a way that is shown, crossings from clock to
 * clock are told by their shape and mended.
 */
public final class ClockCourt {
    private static final int MOST_CELLS = 24;
    private static final int MOST_BITS = 10;
    private static final int CLOCKS = 4;
    private static final int SETS = 1 << CLOCKS;
    private static final int MOST_PER_BOUND = 9;
    private static final int MOST_PROMISES = 8;
    private static final int LONGEST_RUN = 60;
    private static final int MOST_STATES = 250;
    private static final int LONGEST_WALK = 20000;
    private static final int SHELVES = 8;
    private static final int LONGEST_ROW = 60;

    private static final int NOT = 3;
    private static final int PICK = 4;
    private static final int INPUT = 5;
    private static final int KEEPER = 6;

    private static final int ALWAYS = 0;
    private static final int NEVER_BOTH = 1;
    private static final int AS = 2;
    private static final int ONE = 3;

    private static final int STILL = 0;
    private static final int TWICE = 1;
    private static final int HELD = 2;
    private static final int PLAIN = 3;
    private static final int GLITCH = 4;

    private static final int NOTHING = 0;
    private static final int A_CELL = 1;
    private static final int BOOLEANS = 3;
    private static final int INTS = 4;

    private static final int NO_SUCH = -1;
    private static final int NONE = -2;
    private static final int FULL = -2;
    private static final int BOUND_BROKEN = -2;
    private static final int TOO_LONG = -3;
    private static final int NO_BITS = -3;
    private static final int NOT_WALKED = -3;
    private static final int NOT_PLAIN = -3;
    private static final int EMPTY = -11;
    private static final int OTHER_KIND = -12;
    private static final int NO_PLACE = -13;
    private static final int BELOW_ZERO = -14;
    private static final int NO_FAILURE = -15;

    private final Net net;
    private final Bounds bounds;
    private final Promises promises;
    private final Run run;
    private final Walk walked;
    private final Held[] shelves;

    public ClockCourt() {
        net = new Net();
        bounds = new Bounds();
        promises = new Promises(net);
        Step step = new Step(net);
        run = new Run(net, bounds, step);
        walked = new Walk(net, bounds, promises, step);
        shelves = new Held[SHELVES];
    }

    public int input(int clock) {
        if (!isClock(clock)) {
            return NO_SUCH;
        }
        return addBit(INPUT, clock, 0);
    }

    public int keeper(int clock, int first) {
        if (!isClock(clock) || first < 0 || first > 1) {
            return NO_SUCH;
        }
        return addBit(KEEPER, clock, first);
    }

    public int gate(int kind, int x, int y, int z) {
        boolean hasY = kind != NOT;
        boolean hasZ = kind == PICK;
        if (kind < 0 || kind > PICK || !net.isCell(x) || hasY && !net.isCell(y) || hasZ && !net.isCell(z)) {
            return NO_SUCH;
        }
        if (net.cells >= MOST_CELLS) {
            return FULL;
        }
        int cell = net.addGate(kind, x, hasY ? y : NONE, hasZ ? z : NONE);
        beginAnew();
        return cell;
    }

    public int connect(int keeper, int source) {
        if (!net.isKeeper(keeper) || !net.isCell(source)) {
            return NO_SUCH;
        }
        int before = net.x[keeper];
        net.x[keeper] = source;
        beginAnew();
        return before;
    }

    public int bound(int c, int d, int n) {
        if (!isClock(c) || !isClock(d) || c == d || n < 0 || n > MOST_PER_BOUND) {
            return NO_SUCH;
        }
        int before = bounds.limitOf(c, d);
        bounds.limit(c, d, n);
        beginAnew();
        return before;
    }

    public int still(int bit, boolean is) {
        if (!net.isBit(bit)) {
            return NO_SUCH;
        }
        int mask = 1 << net.bitOf[bit];
        int before = (net.stillBits & mask) != 0 ? 1 : 0;
        net.stillBits = is ? net.stillBits | mask : net.stillBits & ~mask;
        return before;
    }

    public int promise(int kind, int x, int y) {
        boolean hasY = kind != ALWAYS;
        if (kind < ALWAYS || kind > ONE || !net.isCell(x) || hasY && !net.isCell(y) || kind == ONE && x > y) {
            return NO_SUCH;
        }
        if (promises.size >= MOST_PROMISES) {
            return FULL;
        }
        walked.forget();
        return promises.add(kind, x, hasY ? y : x);
    }

    public int start() {
        int had = run.moments;
        run.begin();
        return had;
    }

    public int moment(int clocks, int inputs, int others) {
        if (clocks < 1 || clocks >= SETS || inputs < 0 || others < 0) {
            return NO_SUCH;
        }
        return run.go(clocks, inputs, others);
    }

    public int value(int cell) {
        if (!net.isCell(cell)) {
            return NO_SUCH;
        }
        return net.valueOf(cell, run.bitsNow());
    }

    public int either(int i) {
        int left = i;
        for (int bit = 0; bit < net.bits; bit++) {
            if ((run.eithers >> bit & 1) == 1) {
                if (left == 0) {
                    return net.cellOf[bit];
                }
                left--;
            }
        }
        return NO_SUCH;
    }

    public int ticks(int c, int d) {
        if (!isClock(c) || !isClock(d) || c == d) {
            return NO_SUCH;
        }
        return Bounds.ticksOf(run.ticks, c, d);
    }

    public int broken(int promise) {
        if (!promises.has(promise)) {
            return NO_SUCH;
        }
        for (int m = 0; m <= run.moments; m++) {
            int before = m == 0 ? 0 : m - 1;
            if (!promises.holds(promise, run.bits[before], run.bits[m])) {
                return m;
            }
        }
        return NONE;
    }

    public int walk() {
        if (net.bits == 0) {
            return NO_BITS;
        }
        if (walked.states == 0) {
            walked.begin();
            for (int k = 0; k < MOST_STATES && walked.goesOn(k); k++) {
                walked.lookAt(k);
            }
        }
        return walked.spent ? -2 - walked.states : walked.states;
    }

    public int state(int k, int what) {
        if (!walked.hasState(k) || what < 0 || what > 6) {
            return NO_SUCH;
        }
        switch (what) {
            case 0:
                return walked.bits[k];
            case 5:
                return walked.depth[k];
            case 6:
                return walked.follows[k];
            default:
                return walked.bringing[k * Walk.PARTS + what - 1];
        }
    }

    public int shown(int k, int cell) {
        if (!walked.hasState(k) || !net.isCell(cell)) {
            return NO_SUCH;
        }
        return net.valueOf(cell, walked.bits[k]);
    }

    public int never(int promise, int what) {
        if (!promises.has(promise) || what < 0 || what >= Walk.PARTS) {
            return NO_SUCH;
        }
        // Without a walk "not broken" would always hold too; only this order lets NOT_WALKED ever be answered.
        if (walked.states == 0) {
            return NOT_WALKED;
        }
        if (!walked.breaks(promise)) {
            return NONE;
        }
        return walked.breaking[promise * Walk.PARTS + what];
    }

    public int follow(int k) {
        if (!walked.hasState(k)) {
            return NO_SUCH;
        }
        if (walked.depth[k] > LONGEST_RUN) {
            return TOO_LONG;
        }
        run.begin();
        walked.lead(k, run);
        return run.moments;
    }

    public int fewest(int k) {
        if (!walked.hasState(k)) {
            return NO_SUCH;
        }
        return walked.ways.fewestTo(k, walked.states, walked.looked);
    }

    public int crossings() {
        return Crossings.size(net);
    }

    public int crossing(int i, int what) {
        int keeper = Crossings.keeperOf(net, i);
        if (keeper < 0) {
            return NO_SUCH;
        }
        switch (what) {
            case 0:
                return keeper;
            case 1:
                return Crossings.kindOf(net, keeper);
            case 2:
                return Crossings.meets(net, keeper) ? 1 : 0;
            case 3:
                return Crossings.isBad(net, keeper) ? 1 : 0;
            case 4:
                return net.asCells(net.foreignBits(keeper));
            default:
                return NO_SUCH;
        }
    }

    public int mend(int i) {
        int keeper = Crossings.keeperOf(net, i);
        if (keeper < 0) {
            return NO_SUCH;
        }
        if (net.takesNoBit()) {
            return FULL;
        }
        if (Crossings.kindOf(net, keeper) != PLAIN) {
            return NOT_PLAIN;
        }
        int cell = net.addBehind(keeper);
        beginAnew();
        return cell;
    }

    public int count(int what) {
        switch (what) {
            case 0:
                return net.cells;
            case 1:
                return net.bits;
            case 2:
                return net.cells - net.bits;
            case 3:
                return promises.size;
            case 4:
                return run.moments;
            case 5:
                return walked.states;
            case 6:
                return walked.looked;
            case 7:
                return walked.moments;
            default:
                return NO_SUCH;
        }
    }

    public int look(int cell, int what) {
        if (!net.isCell(cell)) {
            return NO_SUCH;
        }
        switch (what) {
            case 0:
                return net.kind[cell];
            case 1:
                return net.clock[cell];
            case 2:
                return net.x[cell];
            case 3:
                return net.y[cell];
            case 4:
                return net.z[cell];
            default:
                return NO_SUCH;
        }
    }

    public int keep(int d, int what, int k) {
        if (!isShelf(d)) {
            return NO_SUCH;
        }
        switch (what) {
            case NOTHING:
                shelves[d] = null;
                return 0;
            case A_CELL:
                if (!net.isCell(k)) {
                    return NO_SUCH;
                }
                shelves[d] = new HeldCell(net, k);
                return 0;
            case BOOLEANS:
                shelves[d] = rowOfValues();
                return 0;
            case INTS:
                shelves[d] = rowOfClocks();
                return 0;
            default:
                return NO_SUCH;
        }
    }

    public int make(int d, int what, int n) {
        if (!isShelf(d) || what != BOOLEANS && what != INTS || n > LONGEST_ROW) {
            return NO_SUCH;
        }
        if (n < 0) {
            return BELOW_ZERO;
        }
        shelves[d] = new Row(what, n);
        return 0;
    }

    public long element(int d, int i) throws IllegalArgumentException, IllegalStateException {
        if (!isShelf(d)) {
            throw new IllegalArgumentException("no such shelf");
        }
        if (shelves[d] instanceof Row row) {
            if (i >= 0 && i < row.elements.length) {
                return row.elements[i];
            }
            throw new IllegalStateException("the row has no such place");
        }
        throw new IllegalStateException("no row is held");
    }

    public int copy(int d, int i, int e, int j, int n) {
        if (!isShelf(d) || !isShelf(e)) {
            return NO_SUCH;
        }
        if (shelves[d] == null || shelves[e] == null) {
            return EMPTY;
        }
        if (shelves[d] instanceof Row from && shelves[e] instanceof Row to && from.of == to.of) {
            if (!from.hasSpan(i, n) || !to.hasSpan(j, n)) {
                return NO_PLACE;
            }
            System.arraycopy(from.elements, i, to.elements, j, n);
            return n;
        }
        return OTHER_KIND;
    }

    public int weight(int d) {
        if (!isShelf(d)) {
            return NO_SUCH;
        }
        Held held = shelves[d];
        return held == null ? EMPTY : held.weigh();
    }

    public int toss(int d) {
        if (!isShelf(d)) {
            return NO_SUCH;
        }
        Held held = shelves[d];
        return held == null ? EMPTY : held.clockOfFailure();
    }

    private static boolean isClock(int c) {
        return c >= 0 && c < CLOCKS;
    }

    private static boolean isShelf(int d) {
        return d >= 0 && d < SHELVES;
    }

    private int addBit(int kind, int clock, int first) {
        if (net.takesNoBit()) {
            return FULL;
        }
        int cell = net.addBit(kind, clock, first);
        beginAnew();
        return cell;
    }

    private void beginAnew() {
        run.begin();
        walked.forget();
    }

    private Row rowOfValues() {
        Row row = new Row(BOOLEANS, net.cells);
        for (int cell = 0; cell < net.cells; cell++) {
            row.elements[cell] = net.valueOf(cell, run.bitsNow());
        }
        return row;
    }

    private Row rowOfClocks() {
        Row row = new Row(INTS, run.moments);
        System.arraycopy(run.clocks, 0, row.elements, 0, run.moments);
        return row;
    }

    /**
     * The cells. The values of all bits together are one number (bit i: the i-th bit by cells), and each cell has the
     * table of its values for all such numbers, so that no gate is gone through while a moment is made.
     */
    private static final class Net {
        static final int WORDS = 1 << MOST_BITS - 6;
        private static final long[] LOW_BITS = {
            0xAAAAAAAAAAAAAAAAL, 0xCCCCCCCCCCCCCCCCL, 0xF0F0F0F0F0F0F0F0L,
            0xFF00FF00FF00FF00L, 0xFFFF0000FFFF0000L, 0xFFFFFFFF00000000L};

        int cells = 0;
        int bits = 0;
        int firstBits = 0;
        int stillBits = 0;
        int keeperBits = 0;
        final int[] kind = new int[MOST_CELLS];
        final int[] clock = new int[MOST_CELLS];
        // Of a keeper x is the source.
        final int[] x = new int[MOST_CELLS];
        final int[] y = new int[MOST_CELLS];
        final int[] z = new int[MOST_CELLS];
        final int[] bitOf = new int[MOST_CELLS];
        final int[] cellOf = new int[MOST_BITS];
        final int[] bitsOfClock = new int[CLOCKS];
        final int[] hangsOn = new int[MOST_CELLS];
        final long[] table = new long[MOST_CELLS * WORDS];

        boolean isCell(int cell) {
            return cell >= 0 && cell < cells;
        }

        boolean isBit(int cell) {
            return isCell(cell) && kind[cell] >= INPUT;
        }

        boolean isKeeper(int cell) {
            return isCell(cell) && kind[cell] == KEEPER;
        }

        boolean takesNoBit() {
            return cells >= MOST_CELLS || bits >= MOST_BITS;
        }

        int addBit(int itsKind, int itsClock, int first) {
            int cell = cells;
            int bit = bits;
            put(cell, itsKind, itsKind == KEEPER ? cell : NONE, NONE, NONE);
            clock[cell] = itsClock;
            bitOf[cell] = bit;
            cellOf[bit] = cell;
            bitsOfClock[itsClock] |= 1 << bit;
            firstBits |= first << bit;
            keeperBits |= itsKind == KEEPER ? 1 << bit : 0;
            hangsOn[cell] = 1 << bit;
            for (int w = 0; w < WORDS; w++) {
                table[cell * WORDS + w] = wordOfBit(bit, w);
            }
            bits++;
            cells++;
            return cell;
        }

        int addGate(int itsKind, int itsX, int itsY, int itsZ) {
            int cell = cells;
            put(cell, itsKind, itsX, itsY, itsZ);
            clock[cell] = NONE;
            bitOf[cell] = NONE;
            workOut(cell);
            cells++;
            return cell;
        }

        /** A keeper behind another one, which takes that one's place wherever it was used. */
        int addBehind(int keeper) {
            int cell = addBit(KEEPER, clock[keeper], firstBits >> bitOf[keeper] & 1);
            for (int c = 0; c < cells; c++) {
                x[c] = x[c] == keeper ? cell : x[c];
                y[c] = y[c] == keeper ? cell : y[c];
                z[c] = z[c] == keeper ? cell : z[c];
                if (kind[c] <= PICK) {
                    workOut(c);
                }
            }
            x[cell] = keeper;
            return cell;
        }

        int valueOf(int cell, int bitValues) {
            return (int) (table[cell * WORDS + (bitValues >> 6)] >>> (bitValues & 63)) & 1;
        }

        /** Whether a cell has both values while some bits take all values and the others stay as they are. */
        boolean hasBothValues(int cell, int bitValues, int varying) {
            int low = varying & 63;
            int high = varying >> 6;
            long places = 1L << (bitValues & 63 & ~low);
            for (int bit = 0; bit < LOW_BITS.length; bit++) {
                if ((low >> bit & 1) == 1) {
                    places |= places << (1 << bit);
                }
            }
            int fixed = cell * WORDS + (bitValues >> 6 & ~high);
            long ones = 0;
            long zeros = 0;
            for (int part = 0; part <= high; part++) {
                if ((part & ~high) == 0) {
                    long word = table[fixed + part];
                    ones |= word & places;
                    zeros |= ~word & places;
                }
            }
            return ones != 0 && zeros != 0;
        }

        int bitsOfSet(int set) {
            int mask = 0;
            for (int c = 0; c < CLOCKS; c++) {
                if ((set >> c & 1) == 1) {
                    mask |= bitsOfClock[c];
                }
            }
            return mask;
        }

        int clocksInUse() {
            int set = 0;
            for (int c = 0; c < CLOCKS; c++) {
                set |= bitsOfClock[c] != 0 ? 1 << c : 0;
            }
            return set;
        }

        int bitsBetween(int fromCell, int toCell) {
            int mask = 0;
            for (int bit = 0; bit < bits; bit++) {
                if (cellOf[bit] >= fromCell && cellOf[bit] <= toCell) {
                    mask |= 1 << bit;
                }
            }
            return mask;
        }

        /** The bits of other clocks on which the source of a keeper hangs. */
        int foreignBits(int keeper) {
            return hangsOn[x[keeper]] & ~bitsOfClock[clock[keeper]];
        }

        int asCells(int bitMask) {
            int mask = 0;
            for (int bit = 0; bit < bits; bit++) {
                mask |= (bitMask >> bit & 1) << cellOf[bit];
            }
            return mask;
        }

        private void put(int cell, int itsKind, int itsX, int itsY, int itsZ) {
            kind[cell] = itsKind;
            x[cell] = itsX;
            y[cell] = itsY;
            z[cell] = itsZ;
        }

        private void workOut(int cell) {
            // What a gate doesn't have is read as x, so that every index is one of a cell; it isn't used.
            int a = x[cell];
            int b = y[cell] < 0 ? a : y[cell];
            int c = z[cell] < 0 ? a : z[cell];
            hangsOn[cell] = hangsOn[a] | hangsOn[b] | hangsOn[c];
            for (int w = 0; w < WORDS; w++) {
                table[cell * WORDS + w] =
                    wordOfGate(kind[cell], table[a * WORDS + w], table[b * WORDS + w], table[c * WORDS + w]);
            }
        }

        private static long wordOfBit(int bit, int w) {
            if (bit < LOW_BITS.length) {
                return LOW_BITS[bit];
            }
            return (w >> bit - LOW_BITS.length & 1) == 1 ? -1 : 0;
        }

        private static long wordOfGate(int itsKind, long a, long b, long c) {
            switch (itsKind) {
                case 0:
                    return a & b;
                case 1:
                    return a | b;
                case 2:
                    return a ^ b;
                case NOT:
                    return ~a;
                default:
                    return a & b | ~a & c;
            }
        }
    }

    /** The bounds, and the ticks that they look at: of all pairs of clocks in one number, four binary digits each. */
    private static final class Bounds {
        static final long BROKEN = -1;
        private static final int PAIRS = CLOCKS * CLOCKS;

        private final int[] limits = new int[PAIRS];

        int limitOf(int c, int d) {
            return limits[c * CLOCKS + d];
        }

        void limit(int c, int d, int n) {
            limits[c * CLOCKS + d] = n;
        }

        static int ticksOf(long ticks, int c, int d) {
            return (int) (ticks >> 4 * (c * CLOCKS + d)) & 15;
        }

        /** The ticks behind a moment, or BROKEN, which no ticks are, since the highest pair is of one clock alone. */
        long behind(long ticks, int set) {
            long after = ticks;
            for (int pair = 0; pair < PAIRS; pair++) {
                if (limits[pair] == 0) {
                    continue;
                }
                int c = pair / CLOCKS;
                int d = pair % CLOCKS;
                if ((set >> d & 1) == 1) {
                    after &= ~(15L << 4 * pair);
                } else if ((set >> c & 1) == 1) {
                    if (ticksOf(ticks, c, d) >= limits[pair]) {
                        return BROKEN;
                    }
                    after += 1L << 4 * pair;
                }
            }
            return after;
        }
    }

    /** One moment in the making: first its clocks are told, then its inputs, then which keepers become the other. */
    private static final class Step {
        private final Net net;
        private int old = 0;
        private int ticking = 0;
        private int sampled = 0;
        private int plain = 0;
        int inputBits = 0;
        int eithers = 0;

        Step(Net net) {
            this.net = net;
        }

        void tick(int bitValues, int set) {
            old = bitValues;
            int all = net.bitsOfSet(set);
            ticking = all & net.keeperBits;
            inputBits = all & ~net.keeperBits;
            sampled = old & ~all;
            for (int bit = 0; bit < net.bits; bit++) {
                if ((ticking >> bit & 1) == 1) {
                    sampled |= net.valueOf(net.x[net.cellOf[bit]], old) << bit;
                }
            }
        }

        void choose(int inputs) {
            plain = sampled | spread(inputs, inputBits);
            eithers = 0;
            int changing = plain ^ old;
            if (changing == 0) {
                return;
            }
            for (int bit = 0; bit < net.bits; bit++) {
                if ((ticking >> bit & 1) == 1 && isEither(net.cellOf[bit], changing)) {
                    eithers |= 1 << bit;
                }
            }
        }

        int behind(int others) {
            return plain ^ spread(others, eithers);
        }

        private boolean isEither(int keeper, int changing) {
            int varying = changing & net.foreignBits(keeper);
            return varying != 0 && net.hasBothValues(net.x[keeper], old, varying);
        }

        /** The digits of a number, one after the other, at the places of a mask. */
        private static int spread(int number, int mask) {
            int left = number;
            int out = 0;
            for (int bit = 0; bit < MOST_BITS && left != 0; bit++) {
                if ((mask >> bit & 1) == 1) {
                    out |= (left & 1) << bit;
                    left >>= 1;
                }
            }
            return out;
        }
    }

    private static final class Promises {
        private final Net net;
        int size = 0;
        private final int[] kind = new int[MOST_PROMISES];
        private final int[] x = new int[MOST_PROMISES];
        private final int[] y = new int[MOST_PROMISES];
        private final int[] span = new int[MOST_PROMISES];

        Promises(Net net) {
            this.net = net;
        }

        boolean has(int p) {
            return p >= 0 && p < size;
        }

        int add(int itsKind, int itsX, int itsY) {
            int p = size;
            kind[p] = itsKind;
            x[p] = itsX;
            y[p] = itsY;
            span[p] = net.bitsBetween(itsX, itsY);
            size++;
            return p;
        }

        /** Whether a promise holds behind a moment; at the beginning the bits before are those of now. */
        boolean holds(int p, int before, int now) {
            switch (kind[p]) {
                case ALWAYS:
                    return net.valueOf(x[p], now) == 1;
                case NEVER_BOTH:
                    return (net.valueOf(x[p], now) & net.valueOf(y[p], now)) == 0;
                case AS:
                    return net.valueOf(x[p], now) == net.valueOf(y[p], now);
                default:
                    return Integer.bitCount((before ^ now) & span[p]) <= 1;
            }
        }
    }

    /** The run keeps the bits behind each of its moments, since a promise may come when it was broken already. */
    private static final class Run {
        private final Net net;
        private final Bounds bounds;
        private final Step step;
        int moments = 0;
        int eithers = 0;
        long ticks = 0;
        final int[] bits = new int[LONGEST_RUN + 1];
        final int[] clocks = new int[LONGEST_RUN];

        Run(Net net, Bounds bounds, Step step) {
            this.net = net;
            this.bounds = bounds;
            this.step = step;
        }

        void begin() {
            moments = 0;
            eithers = 0;
            ticks = 0;
            bits[0] = net.firstBits;
        }

        int bitsNow() {
            return bits[moments];
        }

        int go(int set, int inputs, int others) {
            long after = bounds.behind(ticks, set);
            if (after == Bounds.BROKEN) {
                return BOUND_BROKEN;
            }
            if (moments >= LONGEST_RUN) {
                return TOO_LONG;
            }
            step.tick(bits[moments], set);
            step.choose(inputs);
            clocks[moments] = set;
            moments++;
            bits[moments] = step.behind(others);
            ticks = after;
            eithers = step.eithers;
            return Integer.bitCount(eithers);
        }
    }

    /** The walk through all states; its rows are made once and used again by each walk. */
    private static final class Walk {
        // A moment is told by the state that was looked at, clocks, inputs, others, and the state that came.
        static final int PARTS = 5;
        private static final int SLOTS = 512;

        private final Net net;
        private final Bounds bounds;
        private final Promises promises;
        private final Step step;
        final Ways ways = new Ways();
        int states = 0;
        int looked = 0;
        int moments = 0;
        boolean spent = false;
        final int[] bits = new int[MOST_STATES];
        private final long[] ticks = new long[MOST_STATES];
        final int[] depth = new int[MOST_STATES];
        final int[] follows = new int[MOST_STATES];
        final int[] bringing = new int[MOST_STATES * PARTS];
        final int[] breaking = new int[MOST_PROMISES * PARTS];
        // The states by their contents: their numbers and 1, so that 0 is a free slot.
        private final int[] slots = new int[SLOTS];
        private final int[] way = new int[LONGEST_RUN];

        Walk(Net net, Bounds bounds, Promises promises, Step step) {
            this.net = net;
            this.bounds = bounds;
            this.promises = promises;
            this.step = step;
        }

        boolean hasState(int k) {
            return k >= 0 && k < states;
        }

        boolean breaks(int promise) {
            return breaking[promise * PARTS + PARTS - 1] != NONE;
        }

        void forget() {
            states = 0;
            looked = 0;
            moments = 0;
            spent = false;
        }

        void begin() {
            forget();
            ways.clear();
            Arrays.fill(slots, 0);
            Arrays.fill(breaking, NONE);
            int first = net.firstBits;
            addState(slotOf(first, 0), first, 0, 0);
            tell(bringing, 0, NONE, 0, 0, 0, 0);
            judge(NONE, 0, 0, 0, 0);
        }

        boolean goesOn(int k) {
            return k < states && !spent;
        }

        /** The run, which is at the beginning, goes by the moments that lead to a state. */
        void lead(int k, Run run) {
            int length = depth[k];
            int at = k;
            for (int i = length - 1; i >= 0; i--) {
                way[i] = at;
                at = bringing[at * PARTS];
            }
            for (int i = 0; i < length; i++) {
                int m = way[i] * PARTS;
                run.go(bringing[m + 1], bringing[m + 2], bringing[m + 3]);
            }
        }

        void lookAt(int k) {
            int before = moments;
            int unused = ~net.clocksInUse();
            for (int set = 1; set < SETS; set++) {
                long after = (set & unused) != 0 ? Bounds.BROKEN : bounds.behind(ticks[k], set);
                if (after != Bounds.BROKEN) {
                    lookAtSet(k, set, after);
                }
                if (spent) {
                    return;
                }
            }
            follows[k] = moments - before;
            looked++;
            ways.close(k, moments);
        }

        private void lookAtSet(int k, int set, long after) {
            step.tick(bits[k], set);
            int inputWays = 1 << Integer.bitCount(step.inputBits);
            for (int inputs = 0; inputs < inputWays; inputs++) {
                step.choose(inputs);
                int otherWays = 1 << Integer.bitCount(step.eithers);
                for (int others = 0; others < otherWays; others++) {
                    arrive(k, set, inputs, others, after);
                    if (spent) {
                        return;
                    }
                }
            }
        }

        private void arrive(int k, int set, int inputs, int others, long after) {
            int now = step.behind(others);
            int slot = slotOf(now, after);
            boolean isNew = slots[slot] == 0;
            if (moments >= LONGEST_WALK || isNew && states >= MOST_STATES) {
                spent = true;
                return;
            }
            if (isNew) {
                tell(bringing, states, k, set, inputs, others, states);
                addState(slot, now, after, depth[k] + 1);
            }
            int to = slots[slot] - 1;
            ways.add(moments, to, Integer.bitCount(others));
            moments++;
            judge(k, set, inputs, others, to);
        }

        private void addState(int slot, int bitValues, long itsTicks, int itsDepth) {
            bits[states] = bitValues;
            ticks[states] = itsTicks;
            depth[states] = itsDepth;
            follows[states] = NONE;
            states++;
            slots[slot] = states;
        }

        private void judge(int k, int set, int inputs, int others, int to) {
            int before = k < 0 ? bits[to] : bits[k];
            for (int p = 0; p < promises.size; p++) {
                if (!breaks(p) && !promises.holds(p, before, bits[to])) {
                    tell(breaking, p, k, set, inputs, others, to);
                }
            }
        }

        private static void tell(int[] row, int at, int k, int set, int inputs, int others, int to) {
            int m = at * PARTS;
            row[m] = k;
            row[m + 1] = set;
            row[m + 2] = inputs;
            row[m + 3] = others;
            row[m + 4] = to;
        }

        /** The slot of a state, or the free one where it would stand; there are more slots than states. */
        private int slotOf(int bitValues, long itsTicks) {
            long mixed = (itsTicks * 0x9E3779B97F4A7C15L + bitValues) * 0xD6E8FEB86659FD93L;
            int slot = (int) (mixed >>> 55);
            for (int i = 0; i < SLOTS; i++) {
                int k = slots[slot] - 1;
                if (k < 0 || bits[k] == bitValues && ticks[k] == itsTicks) {
                    return slot;
                }
                slot = slot + 1 & SLOTS - 1;
            }
            return slot;
        }
    }

    /** The moments of a walk as ways from state to state, each as long as the keepers that became the other value. */
    private static final class Ways {
        private static final int FAR = 1 << 20;
        // A moment is a state (below 256) and a length (below 16): five of them in one element keep the row short.
        private static final int DIGITS = 12;
        private static final int PER_WORD = 5;

        private final long[] ends = new long[LONGEST_WALK / PER_WORD];
        private final int[] closes = new int[MOST_STATES];
        private final int[] least = new int[MOST_STATES];
        private final boolean[] settled = new boolean[MOST_STATES];
        private boolean measured = false;

        void clear() {
            measured = false;
            Arrays.fill(ends, 0);
        }

        void add(int moment, int to, int others) {
            ends[moment / PER_WORD] |= (long) (to << 4 | others) << moment % PER_WORD * DIGITS;
        }

        void close(int k, int moments) {
            closes[k] = moments;
        }

        int fewestTo(int k, int states, int looked) {
            if (!measured) {
                measure(states, looked);
                measured = true;
            }
            return least[k] < FAR ? least[k] : NONE;
        }

        /** The states that were looked at to the last moment are the first ones. */
        private void measure(int states, int looked) {
            for (int k = 0; k < states; k++) {
                least[k] = k == 0 ? 0 : FAR;
                settled[k] = false;
            }
            for (int round = 0; round < looked; round++) {
                int k = nearest(looked);
                if (k < 0) {
                    return;
                }
                settled[k] = true;
                goOnFrom(k);
            }
        }

        private int nearest(int looked) {
            int best = -1;
            int length = FAR;
            for (int k = 0; k < looked; k++) {
                if (!settled[k] && least[k] < length) {
                    best = k;
                    length = least[k];
                }
            }
            return best;
        }

        private void goOnFrom(int k) {
            int opens = k == 0 ? 0 : closes[k - 1];
            for (int m = opens; m < closes[k]; m++) {
                int end = (int) (ends[m / PER_WORD] >>> m % PER_WORD * DIGITS);
                int to = end >> 4 & 255;
                int length = least[k] + (end & 15);
                if (length < least[to]) {
                    least[to] = length;
                }
            }
        }
    }

    /** Crossings are told from the shape of the net each time, so that nothing has to follow its changes. */
    private static final class Crossings {
        static int size(Net net) {
            int n = 0;
            for (int cell = 0; cell < net.cells; cell++) {
                if (crosses(net, cell)) {
                    n++;
                }
            }
            return n;
        }

        static int keeperOf(Net net, int i) {
            int left = i;
            for (int cell = 0; cell < net.cells; cell++) {
                if (crosses(net, cell)) {
                    if (left == 0) {
                        return cell;
                    }
                    left--;
                }
            }
            return NO_SUCH;
        }

        static int kindOf(Net net, int keeper) {
            int source = net.x[keeper];
            if (isStill(net, keeper)) {
                return STILL;
            }
            if (isTwice(net, keeper)) {
                return TWICE;
            }
            if (isHeld(net, keeper, source)) {
                return HELD;
            }
            return net.isBit(source) ? PLAIN : GLITCH;
        }

        static boolean meets(Net net, int keeper) {
            if (!isTwice(net, keeper)) {
                return false;
            }
            for (int other = 0; other < net.cells; other++) {
                if (other != keeper && isTwice(net, other) && net.clock[other] == net.clock[keeper]
                    && net.x[other] == net.x[keeper]) {
                    return true;
                }
            }
            return false;
        }

        static boolean isBad(Net net, int keeper) {
            return kindOf(net, keeper) >= PLAIN || meets(net, keeper);
        }

        private static boolean crosses(Net net, int cell) {
            return net.isKeeper(cell) && net.foreignBits(cell) != 0;
        }

        private static boolean isStill(Net net, int keeper) {
            return (net.foreignBits(keeper) & ~net.stillBits) == 0;
        }

        private static boolean isTwice(Net net, int cell) {
            return crosses(net, cell) && !isStill(net, cell) && net.isBit(net.x[cell]) && isPassedOn(net, cell);
        }

        /** Whether a keeper is used by one keeper alone, another one of its clock. */
        private static boolean isPassedOn(Net net, int keeper) {
            int users = 0;
            for (int cell = 0; cell < net.cells; cell++) {
                if (net.x[cell] == keeper || net.y[cell] == keeper || net.z[cell] == keeper) {
                    if (cell == keeper || !net.isKeeper(cell) || net.clock[cell] != net.clock[keeper]) {
                        return false;
                    }
                    users++;
                }
            }
            return users == 1;
        }

        private static boolean isHeld(Net net, int keeper, int source) {
            if (net.kind[source] != PICK || net.z[source] != keeper) {
                return false;
            }
            int gateKeeper = net.x[source];
            int data = net.y[source];
            return net.isBit(data) && net.clock[data] != net.clock[keeper]
                && net.isKeeper(gateKeeper) && net.clock[gateKeeper] == net.clock[keeper]
                && isTwice(net, net.x[gateKeeper]);
        }
    }

    /** What a shelf holds, if it holds something. */
    private abstract static class Held {
        abstract int weigh();

        abstract int clockOfFailure();
    }

    /** A cell as it was when it came to the shelf. */
    private static final class HeldCell extends Held {
        private final int number;
        private final int kind;
        private final int clock;
        private final int source;

        HeldCell(Net net, int cell) {
            number = cell;
            kind = net.kind[cell];
            clock = net.clock[cell];
            source = net.x[cell];
        }

        @Override
        int weigh() {
            switch (kind) {
                case KEEPER:
                    return number + 1 + 100 + 5 + source;
                case INPUT:
                    return number + 1 + 100;
                case PICK:
                    return 3 * (number + 1 + 10);
                default:
                    return number + 1 + 10;
            }
        }

        @Override
        int clockOfFailure() {
            try {
                fail();
            } catch (IllegalStateException failure) {
                return clock;
            }
            return NO_FAILURE;
        }

        private void fail() {
            if (kind >= INPUT) {
                throw new IllegalStateException("a bit fails");
            }
        }
    }

    /** A row of booleans (1, 0) or ints. */
    private static final class Row extends Held {
        final int of;
        final int[] elements;

        Row(int of, int length) {
            this.of = of;
            this.elements = new int[length < 0 ? 0 : length];
        }

        boolean hasSpan(int from, int n) {
            return from >= 0 && n >= 0 && from <= elements.length && n <= elements.length - from;
        }

        @Override
        int weigh() {
            return OTHER_KIND;
        }

        @Override
        int clockOfFailure() {
            return OTHER_KIND;
        }
    }
}
