/** What the tests by hand share: asking with the answer that is due, and benches by their rows. */
abstract class Checks {
    static final int FREE = 0;
    static final int LEAST = 1;
    static final int EVEN = 2;
    static final int WHOLE = 3;
    static final int NONE = -1;
    static final int MOST_WORKS = 12;
    /** Far from every bound, and such that a product or a sum of them wraps around to what is within. */
    static final int[] FAR = {
        Integer.MIN_VALUE, Integer.MIN_VALUE + 1, -(1 << 30), -65536, -256, 256, 65536, 1 << 30, 3 << 29,
        Integer.MAX_VALUE - 1, Integer.MAX_VALUE
    };
    private static int wrong;

    static void due(int promise, String call, long got, long want) {
        if (got != want) {
            wrong++;
            System.out.println("promise " + promise + ": " + call + " answered " + got + ", due is " + want);
        }
    }

    static void due(int promise, String call, boolean got, boolean want) {
        due(promise, call, got ? 1 : 0, want ? 1 : 0);
    }

    static void dueRow(int promise, EdgeBench x, int view, int i, int... want) {
        for (int k = 0; k < want.length; k++) {
            due(promise, "side(" + view + ", " + i + ", " + k + ")", x.side(view, i, k), want[k]);
        }
        due(promise, "side beyond the LAST", x.side(view, i, want.length), NONE);
    }

    static void dueShare(EdgeBench x, int view, int work, long top, long bottom) {
        due(7, "share(" + view + ", " + work + ", 0)", x.share(view, work, 0), top);
        due(7, "share(" + view + ", " + work + ", 1)", x.share(view, work, 1), bottom);
    }

    static void dueAbove(EdgeBench x, int view, int work, long top, long bottom) {
        due(11, "above(" + view + ", " + work + ", 0)", x.above(view, work, 0), top);
        due(11, "above(" + view + ", " + work + ", 1)", x.above(view, work, 1), bottom);
    }

    static void dueSpan(EdgeBench x, int view, int work, boolean greatest, long top, long bottom) {
        String call = "span(" + view + ", " + work + ", " + greatest + ", ";
        due(13, call + "0)", x.span(view, work, greatest, 0), top);
        due(13, call + "1)", x.span(view, work, greatest, 1), bottom);
    }

    static void dueShares(EdgeBench x, int work, long... parts) {
        for (int view = FREE; view <= WHOLE; view++) {
            dueShare(x, view, work, parts[2 * view], parts[2 * view + 1]);
        }
    }

    static void dueCost(EdgeBench x, int view, int first, int second, long top, long bottom) {
        String call = "cost(" + view + ", 0, " + first + ", " + second + ", ";
        due(12, call + "0)", x.cost(view, 0, first, second, 0), top);
        due(12, call + "1)", x.cost(view, 0, first, second, 1), bottom);
    }

    static void dueSides(EdgeBench x, int view, int[]... rows) {
        due(14, "sides(" + view + ")", x.sides(view), rows.length);
        for (int i = 0; i < rows.length; i++) {
            dueRow(15, x, view, i, rows[i]);
        }
        due(15, "side beyond the last one", x.side(view, rows.length, 0), NONE);
    }

    /** A new object with works of so many INS and OUTS, told in order. */
    static EdgeBench bench(int ins, int outs, int[]... works) {
        EdgeBench x = new EdgeBench();
        x.start(ins, outs);
        for (int[] row : works) {
            add(x, row);
        }
        return x;
    }

    static int add(EdgeBench x, int... row) {
        int[] numbers = java.util.Arrays.copyOf(row, 4);
        return x.work(numbers[0], numbers[1], numbers[2], numbers[3]);
    }

    static int[] row(int... numbers) {
        return numbers;
    }

    static void finish() {
        System.out.println(wrong == 0 ? "all answers are as due" : wrong + " answers are not as due");
        if (wrong != 0) {
            System.exit(1);
        }
    }
}
