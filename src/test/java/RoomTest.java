import java.lang.management.ManagementFactory;

/** All calls of one run share one room of 7.3 million fields and elements: the dearest runs must stay well within. */
public final class RoomTest {
    private static final int CALLS = 512;
    private static final long ROOM = 7_300_000L;
    private static final long BYTES_AN_ELEMENT = 4;
    private static int wrong;
    private static long sink;

    public static void main(String[] args) {
        for (int turn = 0; turn < 2; turn++) {
            due("new objects", allocated(RoomTest::makeObjects));
            due("dear calls", allocated(RoomTest::callDearly));
        }
        System.out.println(wrong == 0 ? "there is room" : "there is no room for " + wrong + " runs");
        if (wrong != 0) {
            System.exit(1);
        }
    }

    private static void makeObjects() {
        for (int call = 0; call < CALLS; call++) {
            EdgeBench x = new EdgeBench();
            x.work(1 + call % 30, 1, 0, 0);
            sink += x.share(2, 0, 0);
        }
    }

    private static void callDearly() {
        EdgeBench x = new EdgeBench();
        x.start(2, 2);
        for (int i = 0; i < 12; i++) {
            x.work(2 + i * 7 % 29, 2 + i * 11 % 29, 1 + i * 13 % 30, 1 + i * 17 % 30);
        }
        for (int call = 0; call < CALLS; call++) {
            sink += x.span(call % 4, call % 12, call % 2 == 0, 1) + x.above(call % 4, call % 12, 0);
            x.missing(call % 12, call % 4, 3, 3 + call % 2);
            sink += x.size(call % 12) + x.cost(call % 3, call % 12, 5, 7, 0) + x.suits(1, call % 12, 0);
        }
    }

    private static long allocated(Runnable run) {
        if (!(ManagementFactory.getThreadMXBean() instanceof com.sun.management.ThreadMXBean bean)) {
            return 0;
        }
        long thread = Thread.currentThread().getId();
        long before = bean.getThreadAllocatedBytes(thread);
        run.run();
        return bean.getThreadAllocatedBytes(thread) - before;
    }

    private static void due(String run, long bytes) {
        if (bytes > ROOM * BYTES_AN_ELEMENT) {
            wrong++;
            System.out.println(run + " need " + bytes + " bytes");
        }
    }
}
