import java.util.ArrayList;
import java.util.HashMap;
import java.util.List;
import java.util.Map;
import java.util.TreeSet;

/**
 * The document once more, written as slowly and as near to its words as can be, with nothing of the program's ways:
 * the program's answers are held against these in long runs of calls.
 */
final class PlainCourt {
    static final class Cell {
        int kind, clock = -2, x = -2, y = -2, z = -2, first;
        boolean still;
        boolean bit() { return kind >= 5; }
        Cell copy() { Cell c = new Cell(); c.kind = kind; c.clock = clock; c.x = x; return c; }
    }

    static final class Held {
        Cell cell;
        int number;
        List<Integer> row;
        boolean booleans;
    }

    /** Values of all cells that are bits (by cell), and ticks of each pair of clocks since the other one ticked. */
    static final class State {
        int[] values;
        int[][] ticks = new int[4][4];
        int from = -2, clocks, inputs, others, depth, follow = -2;
    }

    static final class After {
        State state;
        List<Integer> eithers = new ArrayList<>();
    }

    private final List<Cell> cells = new ArrayList<>();
    private final int[][] bounds = new int[4][4];
    private final List<int[]> promises = new ArrayList<>();
    private final List<State> run = new ArrayList<>();
    private List<Integer> latest = new ArrayList<>();
    private final Held[] shelves = new Held[8];

    private List<State> states = null;
    private Map<String, Integer> numbers;
    private List<int[]> edges;
    private int[][] breaks;
    private int moments, looked;
    private boolean spent;

    PlainCourt() { anew(); }

    private void anew() {
        run.clear();
        run.add(beginning());
        latest = new ArrayList<>();
        states = null;
    }

    private State beginning() {
        State s = new State();
        s.values = new int[cells.size()];
        for (int c = 0; c < cells.size(); c++) { s.values[c] = cells.get(c).first; }
        return s;
    }

    private boolean isCell(int c) { return c >= 0 && c < cells.size(); }
    private boolean isBit(int c) { return isCell(c) && cells.get(c).bit(); }
    private boolean isKeeper(int c) { return isCell(c) && cells.get(c).kind == 6; }
    private static boolean isClock(int c) { return c >= 0 && c <= 3; }
    private int bits() { int n = 0; for (Cell c : cells) { if (c.bit()) { n++; } } return n; }
    private State now() { return run.get(run.size() - 1); }

    /** A gate's cells are bits, or gates with lower numbers. */
    private int of(int c, int[] bitValues) {
        int[] v = bitValues.clone();
        for (int g = 0; g <= c; g++) {
            if (isBit(g)) { continue; }
            Cell gate = cells.get(g);
            int x = v[gate.x];
            int y = gate.kind == 3 ? 0 : v[gate.y];
            switch (gate.kind) {
                case 0: v[g] = x == 1 && y == 1 ? 1 : 0; break;
                case 1: v[g] = x == 1 || y == 1 ? 1 : 0; break;
                case 2: v[g] = x != y ? 1 : 0; break;
                case 3: v[g] = x == 1 ? 0 : 1; break;
                default: v[g] = x == 1 ? y : v[gate.z];
            }
        }
        return v[c];
    }

    private int addBit(int kind, int clock, int first) {
        if (cells.size() == 24 || bits() == 10) { return -2; }
        Cell c = new Cell();
        c.kind = kind;
        c.clock = clock;
        c.first = first;
        if (kind == 6) { c.x = cells.size(); }
        cells.add(c);
        anew();
        return cells.size() - 1;
    }

    int input(int clock) { return isClock(clock) ? addBit(5, clock, 0) : -1; }

    int keeper(int clock, int first) {
        return isClock(clock) && (first == 0 || first == 1) ? addBit(6, clock, first) : -1;
    }

    int gate(int kind, int x, int y, int z) {
        if (kind < 0 || kind > 4 || !isCell(x)) { return -1; }
        if (kind != 3 && !isCell(y)) { return -1; }
        if (kind == 4 && !isCell(z)) { return -1; }
        if (cells.size() == 24) { return -2; }
        Cell c = new Cell();
        c.kind = kind;
        c.x = x;
        if (kind != 3) { c.y = y; }
        if (kind == 4) { c.z = z; }
        cells.add(c);
        anew();
        return cells.size() - 1;
    }

    int connect(int keeper, int source) {
        if (!isKeeper(keeper) || !isCell(source)) { return -1; }
        int before = cells.get(keeper).x;
        cells.get(keeper).x = source;
        anew();
        return before;
    }

    int bound(int c, int d, int n) {
        if (!isClock(c) || !isClock(d) || c == d || n < 0 || n > 9) { return -1; }
        int before = bounds[c][d];
        bounds[c][d] = n;
        anew();
        return before;
    }

    int still(int bit, boolean is) {
        if (!isBit(bit)) { return -1; }
        boolean was = cells.get(bit).still;
        cells.get(bit).still = is;
        return was ? 1 : 0;
    }

    int promise(int kind, int x, int y) {
        if (kind < 0 || kind > 3 || !isCell(x)) { return -1; }
        if (kind > 0 && !isCell(y)) { return -1; }
        if (kind == 3 && x > y) { return -1; }
        if (promises.size() == 8) { return -2; }
        promises.add(new int[] {kind, x, y});
        states = null;
        return promises.size() - 1;
    }

    int start() {
        int had = run.size() - 1;
        while (run.size() > 1) { run.remove(run.size() - 1); }
        latest = new ArrayList<>();
        return had;
    }

    private static boolean in(int set, int c) { return (set & 1 << c) != 0; }

    private int[][] ticksBehind(State s, int set) {
        int[][] after = new int[4][4];
        for (int c = 0; c < 4; c++) {
            for (int d = 0; d < 4; d++) {
                if (bounds[c][d] == 0) { continue; }
                after[c][d] = in(set, d) ? 0 : s.ticks[c][d] + (in(set, c) ? 1 : 0);
                if (after[c][d] > bounds[c][d]) { return null; }
            }
        }
        return after;
    }

    /** What a moment that can be brings; null if it can't be. */
    private After behind(State s, int set, int inputs, int others) {
        int[][] ticks = ticksBehind(s, set);
        if (ticks == null) { return null; }
        int[] plain = s.values.clone();
        int input = 0;
        for (int c = 0; c < cells.size(); c++) {
            Cell cell = cells.get(c);
            if (!cell.bit() || !in(set, cell.clock)) { continue; }
            plain[c] = cell.kind == 5 ? inputs >> input++ & 1 : of(cell.x, s.values);
        }
        After a = new After();
        a.state = new State();
        a.state.values = plain.clone();
        a.state.ticks = ticks;
        for (int c = 0; c < cells.size(); c++) {
            if (isKeeper(c) && in(set, cells.get(c).clock) && isEither(c, s.values, plain)) {
                if ((others >> a.eithers.size() & 1) == 1) { a.state.values[c] = 1 - plain[c]; }
                a.eithers.add(c);
            }
        }
        return a;
    }

    private boolean isEither(int k, int[] old, int[] plain) {
        List<Integer> changing = new ArrayList<>();
        for (int c = 0; c < cells.size(); c++) {
            if (isBit(c) && plain[c] != old[c] && cells.get(c).clock != cells.get(k).clock) { changing.add(c); }
        }
        boolean zero = false;
        boolean one = false;
        for (int way = 0; way < 1 << changing.size(); way++) {
            int[] values = old.clone();
            for (int i = 0; i < changing.size(); i++) {
                if (in(way, i)) { values[changing.get(i)] = plain[changing.get(i)]; }
            }
            if (of(cells.get(k).x, values) == 1) { one = true; } else { zero = true; }
        }
        return zero && one;
    }

    int moment(int clocks, int inputs, int others) {
        if (clocks < 1 || clocks > 15 || inputs < 0 || others < 0) { return -1; }
        After a = behind(now(), clocks, inputs, others);
        if (a == null) { return -2; }
        if (run.size() == 61) { return -3; }
        a.state.clocks = clocks;
        run.add(a.state);
        latest = a.eithers;
        return latest.size();
    }

    int value(int cell) { return isCell(cell) ? of(cell, now().values) : -1; }

    int either(int i) { return i >= 0 && i < latest.size() ? latest.get(i) : -1; }

    int ticks(int c, int d) { return isClock(c) && isClock(d) && c != d ? now().ticks[c][d] : -1; }

    private boolean holds(int[] p, State before, State after) {
        int[] v = after.values;
        if (p[0] == 0) { return of(p[1], v) == 1; }
        if (p[0] == 1) { return !(of(p[1], v) == 1 && of(p[2], v) == 1); }
        if (p[0] == 2) { return of(p[1], v) == of(p[2], v); }
        int others = 0;
        for (int c = p[1]; before != null && c <= p[2]; c++) {
            if (isBit(c) && before.values[c] != v[c]) { others++; }
        }
        return others <= 1;
    }

    int broken(int promise) {
        if (promise < 0 || promise >= promises.size()) { return -1; }
        for (int m = 0; m < run.size(); m++) {
            if (!holds(promises.get(promise), m == 0 ? null : run.get(m - 1), run.get(m))) { return m; }
        }
        return -2;
    }

    private String name(State s) {
        StringBuilder b = new StringBuilder();
        for (int v : s.values) { b.append(v); }
        for (int[] row : s.ticks) { for (int t : row) { b.append('.').append(t); } }
        return b.toString();
    }

    int walk() {
        if (bits() == 0) { return -3; }
        states = new ArrayList<>();
        numbers = new HashMap<>();
        edges = new ArrayList<>();
        breaks = new int[promises.size()][];
        moments = 0;
        looked = 0;
        spent = false;
        State first = beginning();
        states.add(first);
        numbers.put(name(first), 0);
        judge(null, new int[] {-2, 0, 0, 0, 0}, first);
        for (int k = 0; k < states.size() && !spent; k++) { lookAt(k); }
        return spent ? -2 - states.size() : states.size();
    }

    private void judge(State before, int[] what, State after) {
        for (int p = 0; p < breaks.length; p++) {
            if (breaks[p] == null && !holds(promises.get(p), before, after)) { breaks[p] = what; }
        }
    }

    private void lookAt(int k) {
        State s = states.get(k);
        TreeSet<Integer> used = new TreeSet<>();
        for (Cell c : cells) { if (c.bit()) { used.add(c.clock); } }
        int count = 0;
        for (int set = 1; set <= 15; set++) {
            boolean all = ticksBehind(s, set) != null;
            int inputCount = 0;
            for (int c = 0; c < 4; c++) { all &= !in(set, c) || used.contains(c); }
            for (Cell c : cells) { if (c.kind == 5 && in(set, c.clock)) { inputCount++; } }
            for (int inputs = 0; all && inputs < 1 << inputCount; inputs++) {
                int eithers = behind(s, set, inputs, 0).eithers.size();
                for (int others = 0; others < 1 << eithers; others++) {
                    if (!arrive(k, set, inputs, others)) { spent = true; return; }
                    count++;
                }
            }
        }
        s.follow = count;
        looked++;
    }

    private boolean arrive(int k, int set, int inputs, int others) {
        State next = behind(states.get(k), set, inputs, others).state;
        Integer to = numbers.get(name(next));
        if (moments == 20000 || to == null && states.size() == 250) { return false; }
        if (to == null) {
            to = states.size();
            next.from = k;
            next.clocks = set;
            next.inputs = inputs;
            next.others = others;
            next.depth = states.get(k).depth + 1;
            states.add(next);
            numbers.put(name(next), to);
        }
        moments++;
        edges.add(new int[] {k, to, Integer.bitCount(others)});
        judge(states.get(k), new int[] {k, set, inputs, others, to}, states.get(to));
        return true;
    }

    private boolean isState(int k) { return states != null && k >= 0 && k < states.size(); }

    int state(int k, int what) {
        if (!isState(k)) { return -1; }
        State s = states.get(k);
        switch (what) {
            case 0:
                int mask = 0;
                int bit = 0;
                for (int c = 0; c < cells.size(); c++) { if (isBit(c)) { mask |= s.values[c] << bit++; } }
                return mask;
            case 1: return s.from;
            case 2: return s.clocks;
            case 3: return s.inputs;
            case 4: return s.others;
            case 5: return s.depth;
            case 6: return s.follow;
            default: return -1;
        }
    }

    int shown(int k, int cell) { return isState(k) && isCell(cell) ? of(cell, states.get(k).values) : -1; }

    int never(int promise, int what) {
        if (promise < 0 || promise >= promises.size() || what < 0 || what > 4) { return -1; }
        if (states == null) { return -3; }
        return breaks[promise] == null ? -2 : breaks[promise][what];
    }

    int follow(int k) {
        if (!isState(k)) { return -1; }
        List<State> way = new ArrayList<>();
        for (State s = states.get(k); s.from != -2; s = states.get(s.from)) { way.add(0, s); }
        if (way.size() > 60) { return -3; }
        start();
        for (State s : way) { moment(s.clocks, s.inputs, s.others); }
        return way.size();
    }

    int fewest(int k) {
        if (!isState(k)) { return -1; }
        int[] least = new int[states.size()];
        java.util.Arrays.fill(least, Integer.MAX_VALUE);
        least[0] = 0;
        for (boolean again = true; again;) {
            again = false;
            for (int[] e : edges) {
                if (states.get(e[0]).follow == -2 || least[e[0]] == Integer.MAX_VALUE) { continue; }
                if (least[e[0]] + e[2] < least[e[1]]) {
                    least[e[1]] = least[e[0]] + e[2];
                    again = true;
                }
            }
        }
        return least[k] == Integer.MAX_VALUE ? -2 : least[k];
    }

    private void hang(int c, TreeSet<Integer> seen) {
        if (c < 0 || !seen.add(c)) { return; }
        Cell g = cells.get(c);
        if (g.bit()) { return; }
        hang(g.x, seen);
        hang(g.y, seen);
        hang(g.z, seen);
    }

    private TreeSet<Integer> others(int k) {
        TreeSet<Integer> on = new TreeSet<>();
        hang(cells.get(k).x, on);
        on.removeIf(c -> !isBit(c) || cells.get(c).clock == cells.get(k).clock);
        return on;
    }

    private List<Integer> all() {
        List<Integer> ks = new ArrayList<>();
        for (int k = 0; k < cells.size(); k++) { if (isKeeper(k) && !others(k).isEmpty()) { ks.add(k); } }
        return ks;
    }

    int crossings() { return all().size(); }

    private boolean still(int k) {
        return others(k).stream().allMatch(c -> cells.get(c).still);
    }

    private boolean sourceIsForeignBit(int k) {
        Cell cell = cells.get(k);
        return isBit(cell.x) && cells.get(cell.x).clock != cell.clock;
    }

    private boolean twice(int k) {
        if (!all().contains(k) || still(k) || !sourceIsForeignBit(k)) { return false; }
        List<Integer> users = new ArrayList<>();
        for (int c = 0; c < cells.size(); c++) {
            Cell u = cells.get(c);
            if (u.x == k || u.y == k || u.z == k) { users.add(c); }
        }
        return users.size() == 1 && isKeeper(users.get(0)) && users.get(0) != k
            && cells.get(users.get(0)).clock == cells.get(k).clock;
    }

    private int kind(int k) {
        Cell cell = cells.get(k);
        if (still(k)) { return 0; }
        if (twice(k)) { return 1; }
        Cell source = cells.get(cell.x);
        if (source.kind == 4 && isBit(source.y) && cells.get(source.y).clock != cell.clock && source.z == k
            && isKeeper(source.x) && cells.get(source.x).clock == cell.clock
            && twice(cells.get(source.x).x)) { return 2; }
        return sourceIsForeignBit(k) ? 3 : 4;
    }

    private boolean meets(int k) {
        for (int o : all()) {
            if (o != k && kind(k) == 1 && kind(o) == 1 && cells.get(o).clock == cells.get(k).clock
                && cells.get(o).x == cells.get(k).x) { return true; }
        }
        return false;
    }

    int crossing(int i, int what) {
        if (i < 0 || i >= all().size() || what < 0 || what > 4) { return -1; }
        int k = all().get(i);
        if (what == 0) { return k; }
        if (what == 1) { return kind(k); }
        if (what == 2) { return meets(k) ? 1 : 0; }
        if (what == 3) { return kind(k) == 3 || kind(k) == 4 || meets(k) ? 1 : 0; }
        int mask = 0;
        for (int c : others(k)) { mask |= 1 << c; }
        return mask;
    }

    int mend(int i) {
        if (i < 0 || i >= all().size()) { return -1; }
        int k = all().get(i);
        if (cells.size() == 24 || bits() == 10) { return -2; }
        if (kind(k) != 3) { return -3; }
        int cell = addBit(6, cells.get(k).clock, cells.get(k).first);
        for (int c = 0; c < cell; c++) {
            Cell u = cells.get(c);
            if (u.x == k) { u.x = cell; }
            if (u.y == k) { u.y = cell; }
            if (u.z == k) { u.z = cell; }
        }
        cells.get(cell).x = k;
        return cell;
    }

    int count(int what) {
        switch (what) {
            case 0: return cells.size();
            case 1: return bits();
            case 2: return cells.size() - bits();
            case 3: return promises.size();
            case 4: return run.size() - 1;
            case 5: return states == null ? 0 : states.size();
            case 6: return states == null ? 0 : looked;
            case 7: return states == null ? 0 : moments;
            default: return -1;
        }
    }

    int look(int cell, int what) {
        if (!isCell(cell) || what < 0 || what > 4) { return -1; }
        Cell c = cells.get(cell);
        return new int[] {c.kind, c.clock, c.x, c.y, c.z}[what];
    }

    int keep(int d, int what, int k) {
        if (d < 0 || d > 7 || what != 0 && what != 1 && what != 3 && what != 4) { return -1; }
        if (what == 1 && !isCell(k)) { return -1; }
        Held h = new Held();
        if (what == 1) {
            h.cell = cells.get(k).copy();
            h.number = k;
        } else {
            h.row = new ArrayList<>();
            h.booleans = what == 3;
            for (int c = 0; what == 3 && c < cells.size(); c++) { h.row.add(value(c)); }
            for (int m = 1; what == 4 && m < run.size(); m++) { h.row.add(run.get(m).clocks); }
        }
        shelves[d] = what == 0 ? null : h;
        return 0;
    }

    int make(int d, int what, int n) {
        if (d < 0 || d > 7 || what != 3 && what != 4 || n > 60) { return -1; }
        if (n < 0) { return -14; }
        shelves[d] = new Held();
        shelves[d].booleans = what == 3;
        shelves[d].row = new ArrayList<>();
        for (int i = 0; i < n; i++) { shelves[d].row.add(0); }
        return 0;
    }

    long element(int d, int i) {
        if (d < 0 || d > 7) { return Due.ILLEGAL_ARGUMENT; }
        Held h = shelves[d];
        if (h == null || h.row == null || i < 0 || i >= h.row.size()) { return Due.ILLEGAL_STATE; }
        return h.row.get(i);
    }

    int copy(int d, int i, int e, int j, int n) {
        if (d < 0 || d > 7 || e < 0 || e > 7) { return -1; }
        Held a = shelves[d];
        Held b = shelves[e];
        if (a == null || b == null) { return -11; }
        if (a.row == null || b.row == null || a.booleans != b.booleans) { return -12; }
        if (n < 0 || i < 0 || j < 0 || (long) i + n > a.row.size() || (long) j + n > b.row.size()) { return -13; }
        List<Integer> before = new ArrayList<>(a.row);
        for (int m = 0; m < n; m++) { b.row.set(j + m, before.get(i + m)); }
        return n;
    }

    int weight(int d) {
        if (d < 0 || d > 7) { return -1; }
        Held h = shelves[d];
        if (h == null) { return -11; }
        if (h.cell == null) { return -12; }
        int w = h.number + 1;
        if (h.cell.kind <= 4) { w += 10; }
        if (h.cell.kind == 4) { w *= 3; }
        if (h.cell.kind >= 5) { w += 100; }
        if (h.cell.kind == 6) { w += 5 + h.cell.x; }
        return w;
    }

    int toss(int d) {
        int w = weight(d);
        if (w < 0) { return w; }
        return shelves[d].cell.bit() ? shelves[d].cell.clock : -15;
    }
}
