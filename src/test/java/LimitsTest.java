/**
 * As much of everything as there may be: 512 calls, SIDES as many and numbers as great as a long search has found, and
 * works at the ends of the bounds; all held against the oracle.
 */
public final class LimitsTest extends Checks {
    private static final int MOST_CALLS = 512;

    private static final int[][] MANY_SIDES = {
        {12, 4, 0, 20}, {29, 5, 27, 23}, {16, 9, 13, 28}, {8, 28, 29, 8}, {5, 25, 22, 25}, {14, 3, 22, 2},
        {20, 7, 28, 16}, {4, 30, 22, 25}, {25, 9, 23, 29}, {16, 1, 16, 9}, {5, 14, 16, 23}, {1, 6, 5, 11}
    };
    private static final int[][] GREAT_WEIGHTS = {
        {6, 30, 0, 1}, {7, 30, 30, 30}, {30, 0, 0, 30}, {25, 13, 4, 0}, {30, 1, 30, 0}
    };
    private static final int[][] ENDS = {
        {30, 0, 0, 30}, {0, 30, 30, 0}, {1, 29, 30, 30}, {29, 1, 0, 1}, {30, 30, 1, 0}, {30, 30, 30, 30},
        {1, 1, 1, 1}, {0, 1, 1, 0}, {1, 0, 0, 29}, {29, 29, 29, 29}, {30, 29, 1, 30}, {2, 30, 30, 1}
    };

    public static void main(String[] args) {
        allCalls();
        manyCallsAlike();
        against("many SIDES", 84, MANY_SIDES);
        against("great weights", 0, GREAT_WEIGHTS);
        against("works at the ends", 0, ENDS);
        greatestWeight();
        finish();
    }

    /** "An object is used for at most 512 calls": the last one of them is as good as the first. */
    private static void allCalls() {
        EdgeBench x = new EdgeBench();
        int calls = 0;
        for (; calls < MOST_CALLS - 20; calls += 4) {
            x.start(1 + calls / 4 % 2, 1);
            x.work(1, 30, 30, 30);
            x.set(0, calls % 8 == 0);
            x.missing(0, 0, 0, 30);
        }
        x.start(2, 2);
        for (int[] row : MANY_SIDES) {
            due(3, "a late work", add(x, row) >= 0, true);
        }
        calls += 13;
        due(14, "late sides", x.sides(LEAST), 84);
        due(4, "a late set", x.set(11, false), true);
        due(17, "a late count", x.count(3), 11);
        due(5, "a late missing", x.missing(0, 0, 30, 30), true);
        due(7, "a late share", x.share(FREE, 1, 0), fresh().share(FREE, 1, 0));
        calls += 5;
        due(7, "the last call but one", x.share(FREE, 1, 1), fresh().share(FREE, 1, 1));
        due(13, "the last call", x.span(EVEN, 0, false, 1), fresh().span(EVEN, 0, false, 1));
        due(0, "calls made", calls + 2, MOST_CALLS);
    }

    private static EdgeBench fresh() {
        EdgeBench x = bench(2, 2, MANY_SIDES);
        x.set(11, false);
        x.missing(0, 0, 30, 30);
        return x;
    }

    /** Asked again and again, an object answers the same. */
    private static void manyCallsAlike() {
        EdgeBench x = bench(2, 2, MANY_SIDES);
        long above = x.above(EVEN, 3, 0);
        long share = x.share(LEAST, 5, 1);
        for (int call = 0; call < 240; call++) {
            due(11, "above again", x.above(EVEN, 3, 0), above);
            due(7, "share again", x.share(LEAST, 5, 1), share);
        }
    }

    /** All answers of a bench, and of each bench with one work dropped; the most SIDES of a view, if they are told. */
    private static void against(String name, int mostSides, int[][] works) {
        int most = 0;
        for (int dropped = -1; dropped < works.length; dropped += dropped < 0 ? 1 : 5) {
            Oracle oracle = new Oracle();
            oracle.start(2, 2);
            for (int[] row : works) {
                oracle.work(row[0], row[1], row[2], row[3]);
            }
            oracle.set(dropped, false);
            for (int view = FREE; view <= WHOLE; view++) {
                most = Math.max(most, oracle.sides(view));
                sidesAgainst(name, oracle, view, dropped, works);
                for (int work = 0; work < works.length; work++) {
                    workAgainst(name, oracle, view, work, made(dropped, works));
                }
            }
        }
        if (mostSides > 0) {
            due(14, name, most, mostSides);
        }
    }

    private static EdgeBench made(int dropped, int[][] works) {
        EdgeBench x = bench(2, 2, works);
        x.set(dropped, false);
        return x;
    }

    private static void sidesAgainst(String name, Oracle oracle, int view, int dropped, int[][] works) {
        EdgeBench x = made(dropped, works);
        due(14, name + ": sides(" + view + ")", x.sides(view), oracle.sides(view));
        for (int i = 0; i < oracle.sides(view); i++) {
            for (int k = 0; k <= 4; k++) {
                due(15, name + ": side " + i + " of " + view, x.side(view, i, k), oracle.side(view, i, k));
            }
        }
    }

    private static void workAgainst(String name, Oracle oracle, int view, int work, EdgeBench x) {
        String call = name + ": (" + view + ", " + work + ")";
        for (int what = 0; what <= 1; what++) {
            due(7, call, x.share(view, work, what), oracle.share(view, work, what));
            due(11, call, x.above(view, work, what), oracle.above(view, work, what));
            due(12, call, x.cost(view, work, 30, 29, what), oracle.cost(view, work, 30, 29, what));
            due(12, call, x.cost(view, work, 0, 30, what), oracle.cost(view, work, 0, 30, what));
            due(13, call, x.span(view, work, true, what), oracle.span(view, work, true, what));
        }
        due(8, call, x.strong(view, work), oracle.strong(view, work));
        due(10, call, x.size(work), oracle.size(work));
        for (int other = 0; other < MOST_WORKS; other++) {
            due(9, call + " by " + other, x.peer(view, work, other), oracle.peer(view, work, other));
        }
        for (int i = 0; i < oracle.sides(view); i++) {
            due(16, call + " of " + i, x.suits(view, work, i), oracle.suits(view, work, i));
        }
    }

    /** It is told as it is, not cut to what a smaller number holds. */
    private static void greatestWeight() {
        EdgeBench x = bench(2, 2, GREAT_WEIGHTS);
        int greatest = 0;
        for (int view = FREE; view <= EVEN; view++) {
            for (int i = 0; i < x.sides(view); i++) {
                for (int k = 0; k <= 4; k++) {
                    greatest = Math.max(greatest, Math.abs(x.side(view, i, k)));
                }
            }
        }
        due(15, "the greatest number of a SIDE", greatest, 1561500);
    }
}
