import java.lang.management.ManagementFactory;

/** All calls of a run live in one room: what the dearest calls make is counted, in bytes, far below that room. */
public final class RoomTest {
    /** Some of the 512 calls of an object make the net. */
    private static final int CALLS = 500;
    private static final long MOST = 1 << 20;

    private final Due due = new Due();

    public static void main(String[] args) {
        RoomTest t = new RoomTest();
        t.walks();
        t.shelves();
        t.objects();
        t.due.end();
    }

    private static long made() {
        return ((com.sun.management.ThreadMXBean) ManagementFactory.getThreadMXBean()).getCurrentThreadAllocatedBytes();
    }

    private void small(String what, long bytes, long most) {
        due.is(what + " made " + bytes + " bytes", bytes <= most ? 1 : 0, 1);
    }

    private void walks() {
        ClockCourt x = new ClockCourt();
        for (int i = 0; i < 7; i++) {
            x.input(i < 5 ? 0 : 1);
        }
        long before = made();
        for (int i = 0; i < CALLS / 4; i++) {
            x.bound(2, 3, i % 9);
            x.walk();
            x.fewest(i % 128);
            x.follow(i % 128);
        }
        small("walks", made() - before, MOST);
    }

    private void shelves() {
        ClockCourt x = new ClockCourt();
        x.input(0);
        long before = made();
        for (int i = 0; i < CALLS / 4; i++) {
            x.make(i % 8, 4, 60);
            x.keep((i + 1) % 8, 1, 0);
            x.toss((i + 1) % 8);
            x.crossings();
        }
        small("shelves", made() - before, MOST);
    }

    private void objects() {
        long before = made();
        int cells = 0;
        for (int i = 0; i < 100; i++) {
            cells += new ClockCourt().input(0) + 1;
        }
        due.is("cells", cells, 100);
        small("a hundred objects", made() - before, 100L * 64 * 1024);
    }
}
