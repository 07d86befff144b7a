import java.util.ArrayList;
import java.util.List;

/**
 * All that can be asked of an object: two objects of which the same is seen hold the same. The last things asked are
 * told anew by it (bounds, what is still, then values at first), so that the object is not used any more behind it.
 */
final class Seen {
    /** An object is used for 512 calls at most, and some hundred of them made it. */
    static final int MOST_ANSWERS = 400;

    private final ClockCourt x;
    private final int cells;
    private final int promises;
    private final int crossings;
    private final List<String> answers = new ArrayList<>();

    private Seen(ClockCourt x) {
        this.x = x;
        cells = x.count(0);
        promises = x.count(3);
        crossings = x.crossings();
    }

    static List<String> of(ClockCourt x) {
        Seen seen = new Seen(x);
        seen.counts();
        seen.net();
        seen.run();
        seen.walk();
        seen.shelves();
        seen.toldAnew();
        return seen.answers;
    }

    private void add(String call, long answer) {
        answers.add(call + " = " + answer);
    }

    private void counts() {
        for (int what = 0; what < 8; what++) {
            add("count(" + what + ")", x.count(what));
        }
    }

    private void net() {
        for (int cell = 0; cell < cells; cell++) {
            for (int what = 0; what < 5; what++) {
                add("look(" + cell + ", " + what + ")", x.look(cell, what));
            }
        }
        for (int i = 0; i <= crossings; i++) {
            for (int what = 0; what < 5; what++) {
                add("crossing(" + i + ", " + what + ")", x.crossing(i, what));
            }
        }
    }

    private void run() {
        values("value");
        for (int i = 0; i < 3; i++) {
            add("either(" + i + ")", x.either(i));
        }
        for (int pair = 0; pair < 16; pair++) {
            add("ticks of pair " + pair, x.ticks(pair / 4, pair % 4));
        }
        for (int p = 0; p < promises; p++) {
            add("broken(" + p + ")", x.broken(p));
        }
    }

    private void values(String name) {
        for (int cell = 0; cell < cells; cell++) {
            add(name + "(" + cell + ")", x.value(cell));
        }
    }

    private void walk() {
        for (int k : new int[] {0, 100}) {
            for (int what = 0; what < 7; what++) {
                add("state(" + k + ", " + what + ")", x.state(k, what));
            }
            add("shown(" + k + ", 0)", x.shown(k, 0));
            add("fewest(" + k + ")", x.fewest(k));
        }
        for (int p = 0; p < promises; p++) {
            add("never(" + p + ", 0)", x.never(p, 0));
            add("never(" + p + ", 4)", x.never(p, 4));
        }
    }

    private void shelves() {
        for (int d = 0; d < 8; d++) {
            add("weight(" + d + ")", x.weight(d));
            add("element(" + d + ", 0)", Due.element(x, d, 0));
            add("element(" + d + ", 1)", Due.element(x, d, 1));
            add("element(" + d + ", 59)", Due.element(x, d, 59));
        }
    }

    private void toldAnew() {
        for (int pair = 0; pair < 16; pair++) {
            add("bound of pair " + pair, x.bound(pair / 4, pair % 4, 0));
        }
        for (int cell = 0; cell < cells; cell++) {
            add("still(" + cell + ")", x.still(cell, false));
        }
        values("value at first");
    }
}
