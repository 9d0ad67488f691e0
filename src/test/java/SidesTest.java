/** The edges of WEIGHTS and SIDES: their signs, that none is a sum of others, their order, and which suit a work. */
public final class SidesTest extends Checks {
    public static void main(String[] args) {
        lastByView();
        sidesOfOne();
        sidesOnce();
        sidesAreNoSums();
        sidesWithoutDivisor();
        sidesInOrder();
        sidesOfBareWorks();
        suitsInsAboveNought();
        suitsInsOfOne();
        finish();
    }

    /** "A LAST one, which is 0 for FREE, 0 or less for LEAST, any for EVEN." */
    private static void lastByView() {
        EdgeBench x = bench(2, 2, row(3, 7, 2, 9), row(6, 2, 8, 1), row(9, 9, 9, 9), row(4, 4, 3, 3));
        int[] above = new int[3];
        int[] below = new int[3];
        for (int view = FREE; view <= EVEN; view++) {
            for (int i = 0; i < x.sides(view); i++) {
                int last = x.side(view, i, 4);
                above[view] += last > 0 ? 1 : 0;
                below[view] += last < 0 ? 1 : 0;
            }
        }
        due(14, "FREE above 0", above[FREE], 0);
        due(14, "FREE below 0", below[FREE], 0);
        due(14, "LEAST above 0", above[LEAST], 0);
        due(14, "LEAST below 0", below[LEAST] > 0, true);
        due(14, "EVEN above 0", above[EVEN] > 0, true);
        due(14, "EVEN below 0", below[EVEN] > 0, true);
    }

    /** The fewest works that have SIDES; "0 or more"; "without a common divisor". */
    private static void sidesOfOne() {
        EdgeBench x = bench(1, 1, row(4, 6));
        dueSides(x, FREE, row(3, 2, 0), row(1, 0, 0));
        dueSides(x, LEAST, row(3, 2, 0), row(1, 0, 0), row(0, 1, -6), row(0, 0, -1));
        dueSides(x, EVEN, row(1, 0, 4), row(0, 1, -6), row(0, 0, -1));
        EdgeBench great = bench(1, 1, row(30, 30));
        dueSides(great, FREE, row(1, 1, 0), row(1, 0, 0));
        dueSides(great, EVEN, row(1, 0, 30), row(0, 1, -30), row(0, 0, -1));
        EdgeBench two = bench(2, 2, row(0, 2, 0, 4));
        dueSides(two, FREE, row(1, 0, 0, 0, 0), row(0, 2, 0, 1, 0), row(0, 1, 0, 0, 0), row(0, 0, 1, 0, 0));
        dueSides(two, EVEN, row(1, 0, 0, 0, 0), row(0, 1, 0, 0, 2), row(0, 0, 1, 0, 0), row(0, 0, 0, 1, -4),
            row(0, 0, 0, 0, -1));
    }

    /** "No sum of two others that are not multiples of it (nor 0)": what bounds nothing anew, makes no new SIDE. */
    private static void sidesOnce() {
        EdgeBench x = bench(1, 1, row(2, 3), row(2, 3));
        dueSides(x, FREE, row(3, 2, 0), row(1, 0, 0));
        dueSides(x, EVEN, row(1, 0, 2), row(0, 1, -3), row(0, 0, -1));
        x.work(4, 6, 0, 0);
        dueSides(x, FREE, row(3, 2, 0), row(1, 0, 0));
        dueSides(x, LEAST, row(3, 2, 0), row(1, 0, 0), row(0, 1, -6), row(0, 0, -1));
        dueSides(x, EVEN, row(3, 2, 0), row(1, 0, 2), row(0, 1, -6), row(0, 0, -1));
        x.work(3, 4, 0, 0);
        dueSides(x, EVEN, row(3, 2, 0), row(1, 0, 2), row(0, 1, -6), row(0, 0, -1));
        // 9 for 6 lies on the line of 0 and 2: the SIDE is on three works now, and one SIDE.
        x.work(6, 9, 0, 0);
        dueSides(x, EVEN, row(3, 2, 0), row(1, 0, 2), row(0, 1, -9), row(0, 0, -1));
        x.work(3, 5, 0, 0);
        dueSides(x, FREE, row(5, 3, 0), row(1, 0, 0));
        dueSides(x, EVEN, row(4, 3, -3), row(2, 1, 1), row(1, 0, 2), row(0, 1, -9), row(0, 0, -1));
    }

    /**
     * "No sum of two others that are not multiples of it": a sum lies on those bounds alone that both lie on, so each
     * SIDE lies on a bound that another one does not lie on.
     */
    private static void sidesAreNoSums() {
        int[][][] benches = {
            {{2, 0, 1, 2}, {2, 3, 1, 2}, {2, 2, 2, 0}},
            {{3, 1, 3, 0}, {1, 3, 0, 1}, {3, 1, 3, 2}, {3, 0, 0, 2}},
            {{1, 1, 1, 1}, {2, 2, 2, 2}, {3, 3, 3, 3}, {1, 2, 2, 1}, {2, 1, 1, 2}, {3, 3, 3, 3}},
            {{3, 7, 2, 9}, {6, 2, 8, 1}, {9, 9, 9, 9}, {4, 4, 3, 3}, {1, 9, 5, 0}}
        };
        // As the oracle finds them, which tries all sets of bounds.
        int[][] counts = {{6, 11, 7}, {8, 12, 10}, {6, 11, 9}, {10, 20, 20}};
        for (int bench = 0; bench < benches.length; bench++) {
            for (int view = FREE; view <= EVEN; view++) {
                EdgeBench x = bench(2, 2, benches[bench]);
                int sides = x.sides(view);
                due(14, "bench " + bench + ", sides(" + view + ")", sides, counts[bench][view]);
                int[] met = new int[sides];
                for (int i = 0; i < sides; i++) {
                    met[i] = boundsMet(x, view, i, benches[bench]);
                }
                for (int pair = 0; pair < sides * sides; pair++) {
                    int one = pair / sides;
                    int other = pair % sides;
                    boolean isApart = one == other || (met[one] & ~met[other]) != 0;
                    due(14, "SIDE " + one + " is on a bound that " + other + " is not on", isApart, true);
                }
            }
        }
    }

    private static int boundsMet(EdgeBench x, int view, int i, int[][] works) {
        int[] side = new int[5];
        int met = 0;
        for (int k = 0; k < 5; k++) {
            side[k] = x.side(view, i, k);
            boolean isBound = k < 4 || view == LEAST;
            met |= side[k] == 0 && isBound ? 1 << k : 0;
            due(15, "number " + k + " is 0 or more", k == 4 || side[k] >= 0, true);
        }
        for (int work = 0; work < works.length; work++) {
            int[] row = works[work];
            int left = side[0] * row[0] + side[1] * row[1] - side[2] * row[2] - side[3] * row[3] - side[4];
            met |= left == 0 ? 1 << 5 + work : 0;
            due(15, "OUTS and LAST are at most INS", left >= 0, true);
        }
        return met;
    }

    /** "Without a common divisor": the LAST, being below 0, has a part in it. */
    private static void sidesWithoutDivisor() {
        EdgeBench x = bench(1, 1, row(2, 3), row(4, 5));
        dueSides(x, FREE, row(3, 2, 0), row(1, 0, 0));
        dueSides(x, LEAST, row(3, 2, 0), row(1, 1, -1), row(1, 0, 0), row(0, 1, -5), row(0, 0, -1));
        dueSides(x, EVEN, row(1, 1, -1), row(1, 0, 2), row(0, 1, -5), row(0, 0, -1));
        EdgeBench odd = bench(1, 1, row(2, 4), row(8, 7));
        // Here it is the LAST alone that keeps the row from being halved, or thirded.
        dueSides(odd, EVEN, row(1, 2, -6), row(1, 0, 2), row(0, 1, -7), row(0, 0, -1));
        EdgeBench third = bench(1, 1, row(3, 5), row(6, 8));
        dueSides(third, EVEN, row(1, 1, -2), row(1, 0, 3), row(0, 1, -8), row(0, 0, -1));
    }

    /** "In order, the one first that has the greater number where they first differ." */
    private static void sidesInOrder() {
        int[][] works = {{3, 7, 2, 9}, {6, 2, 8, 1}, {9, 9, 9, 9}, {4, 4, 3, 3}, {1, 9, 5, 0}};
        for (int view = FREE; view <= EVEN; view++) {
            EdgeBench x = bench(2, 2, works);
            for (int i = 1; i < x.sides(view); i++) {
                int k = 0;
                while (k < 4 && x.side(view, i - 1, k) == x.side(view, i, k)) {
                    k++;
                }
                due(15, "SIDE " + (i - 1) + " before " + i, x.side(view, i - 1, k) > x.side(view, i, k), true);
            }
        }
    }

    private static void sidesOfBareWorks() {
        EdgeBench x = bench(1, 1, row(4, 6));
        x.missing(0, 0, 0, 4);
        dueSides(x, FREE, row(1, 0, 0));
        dueSides(x, LEAST, row(1, 0, 0), row(0, 1, -6), row(0, 0, -1));
        dueSides(x, EVEN, row(1, 0, 0), row(0, 1, -6), row(0, 0, -1));
        x.missing(0, 0, 4, 4);
        x.missing(0, 1, 0, 0);
        dueSides(x, FREE, row(1, 0, 0), row(0, 1, 0));
        dueSides(x, LEAST, row(1, 0, 0), row(0, 1, 0), row(0, 0, -1));
        dueSides(x, EVEN, row(1, 0, 4), row(0, 1, 0), row(0, 0, -1));
        x.missing(0, 0, 0, 0);
        dueSides(x, FREE, row(1, 0, 0), row(0, 1, 0));
        dueSides(x, LEAST, row(1, 0, 0), row(0, 1, 0), row(0, 0, -1));
        dueSides(x, EVEN, row(1, 0, 0), row(0, 1, 0), row(0, 0, -1));
    }

    /** "OUTS weighed and LAST by INS weighed (above 0) is its SHARE." */
    private static void suitsInsAboveNought() {
        EdgeBench x = bench(1, 1, row(3, 6), row(3, 5));
        dueSides(x, EVEN, row(1, 0, 3), row(0, 1, -6), row(0, 0, -1));
        int[][] suits = {{1, 0, 0}, {1, 0, 0}};
        for (int work = 0; work < 2; work++) {
            for (int i = 0; i < 3; i++) {
                due(16, "suits(2, " + work + ", " + i + ")", x.suits(EVEN, work, i), suits[work][i]);
            }
        }
        EdgeBench y = bench(2, 1, row(0, 3, 6), row(3, 0, 6));
        // What weighs one IN alone weighs nothing that one of them takes.
        dueSides(y, EVEN, row(1, 1, 0, 3), row(1, 0, 0, 0), row(0, 1, 0, 0), row(0, 0, 1, -6), row(0, 0, 0, -1));
        int[] due = {1, 0, 0, 0, 0};
        for (int i = 0; i < due.length; i++) {
            due(16, "suits(2, 0, " + i + ")", y.suits(EVEN, 0, i), due[i]);
            due(16, "suits(2, 1, " + i + ")", y.suits(EVEN, 1, i), due[i]);
        }
        EdgeBench z = bench(1, 1, row(4, 6), row(9, 6));
        z.missing(1, 0, 0, 9);
        // SHARE is 0 then, and the SIDE that weighs the IN alone tells it.
        due(16, "SHARE 0", z.suits(FREE, 0, 0), 1);
        due(16, "SHARE 0, weighing no INS", z.suits(EVEN, 0, 1), 0);
    }

    /** The least that is above 0. */
    private static void suitsInsOfOne() {
        EdgeBench x = bench(1, 1, row(1, 1));
        due(16, "INS weigh 1, OUTS 1", x.suits(FREE, 0, 0), 1);
        due(16, "INS weigh 1, OUTS 0", x.suits(FREE, 0, 1), 0);
        due(16, "INS weigh 1, LAST 1", x.suits(EVEN, 0, 0), 1);
        due(16, "INS weigh 0, OUTS and LAST 0", x.suits(EVEN, 0, 1), 0);
        due(16, "INS weigh 0, LAST -1", x.suits(EVEN, 0, 2), 0);
    }
}
