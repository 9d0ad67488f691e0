/** The edges of ABOVE, COST and SPAN: where there is none, no price, nothing taken somewhere; and lowest terms. */
public final class QuestionsTest extends Checks {
    public static void main(String[] args) {
        aboveByOneUnit();
        aboveOfInsThatAreNot();
        aboveNought();
        costWithoutPrice();
        costByOneUnit();
        costNought();
        spanOfFour();
        spanCountsNoAlikeEnds();
        spanBare();
        spanBareOfTwo();
        spanBareDropped();
        spanAtBothEnds();
        spanOfItself();
        spanOfLastThing();
        spanBareOfUnlike();
        lowestTerms();
        finish();
    }

    /** "SHARE of a work by the others that are THERE alone; there may be none." */
    private static void aboveByOneUnit() {
        EdgeBench x = bench(1, 1, row(5, 5), row(7, 5));
        for (int view = FREE; view <= WHOLE; view++) {
            dueAbove(x, view, 0, 7, 5);
        }
        x.missing(1, 1, 4, 4);
        dueAbove(x, FREE, 0, 7, 4);
        for (int view = LEAST; view <= WHOLE; view++) {
            dueAbove(x, view, 0, NONE, NONE);
            dueShare(x, view, 0, 1, 1);
        }
        x.missing(1, 1, 0, 0);
        dueAbove(x, FREE, 0, NONE, NONE);
        x.missing(1, 1, 6, 6);
        dueAbove(x, FREE, 0, 7, 6);
        for (int view = EVEN; view <= WHOLE; view++) {
            dueAbove(x, view, 0, 7, 5);
        }
        x.set(1, false);
        for (int view = FREE; view <= WHOLE; view++) {
            dueAbove(x, view, 0, NONE, NONE);
        }
    }

    private static void aboveOfInsThatAreNot() {
        for (int taken = 0; taken <= 1; taken++) {
            EdgeBench x = bench(2, 1, row(0, 3, 2), row(taken, 6, 2));
            for (int view = FREE; view <= WHOLE; view++) {
                dueAbove(x, view, 0, taken == 0 ? 2 : NONE, taken == 0 ? 1 : NONE);
            }
        }
        for (int given = 0; given <= 1; given++) {
            EdgeBench x = bench(1, 2, row(3, 3, 1), row(3, 3, given));
            for (int view = FREE; view <= WHOLE; view++) {
                dueAbove(x, view, 0, given == 1 ? 1 : NONE, given == 1 ? 1 : NONE);
            }
        }
    }

    private static void aboveNought() {
        EdgeBench x = bench(1, 1, row(5, 5), row(7, 5));
        x.missing(1, 0, 0, 7);
        for (int view = FREE; view <= WHOLE; view++) {
            dueAbove(x, view, 0, 0, 1);
        }
        due(11, "above of what takes nothing", x.above(FREE, 1, 0), NONE);
    }

    /** "Or what the work takes has no price." */
    private static void costWithoutPrice() {
        EdgeBench x = bench(2, 1, row(0, 6, 1), row(3, 3, 1));
        for (int view = FREE; view <= WHOLE; view++) {
            dueCost(x, view, 5, 0, NONE, NONE);
            dueCost(x, view, 5, 1, 1, 1);
            dueCost(x, view, 0, 1, 1, 2);
            dueCost(x, view, 0, 0, NONE, NONE);
            due(12, "the other one has a price", x.cost(view, 1, 5, 0, 0), 0);
            due(12, "of 0: 1", x.cost(view, 1, 5, 0, 1), 1);
        }
        EdgeBench y = bench(2, 1, row(6, 0, 1), row(3, 3, 1));
        for (int view = FREE; view <= WHOLE; view++) {
            dueCost(y, view, 0, 5, NONE, NONE);
            dueCost(y, view, 1, 5, 1, 1);
            dueCost(y, view, 1, 0, 1, 2);
        }
    }

    /** "The least price of what a sum by the VIEW takes that gives of each OUT at least what the work gives." */
    private static void costByOneUnit() {
        EdgeBench x = bench(2, 1, row(10, 10, 4), row(0, 4, 3), row(9, 0, 4));
        // 16/3 is the price of what gives 4 by FREE, of the second, where both prices are 1.
        dueCost(x, FREE, 1, 1, 4, 15);
        dueCost(x, LEAST, 1, 1, 9, 20);
        dueCost(x, EVEN, 1, 1, 9, 20);
        dueCost(x, WHOLE, 1, 1, 9, 20);
        x.missing(0, 2, 3, 3);
        for (int view = FREE; view <= WHOLE; view++) {
            dueCost(x, view, 1, 1, 1, 5);
            dueCost(x, view, 30, 30, 1, 5);
            dueCost(x, view, 1, 30, view < EVEN ? 27 : 9, view < EVEN ? 1240 : 310);
        }
    }

    private static void costNought() {
        EdgeBench x = bench(1, 1, row(10, 4), row(9, 4));
        x.missing(1, 0, 0, 9);
        for (int view = FREE; view <= WHOLE; view++) {
            dueCost(x, view, 30, -1, 0, 1);
            due(12, "cost of what takes nothing", x.cost(view, 1, 30, 0, 0), NONE);
        }
    }

    /** "More than 4 numbers of WORKS that are THERE are MISSING": of one work, or of some. */
    private static void spanOfFour() {
        EdgeBench x = bench(2, 2, row(4, 4, 4, 4), row(4, 4, 4, 4));
        for (int thing = 0; thing < 4; thing++) {
            // With less of both INS the other one does better.
            dueSpan(x, FREE, 1, false, thing < 2 ? 1 : 3, thing < 2 ? 1 : 4);
            x.missing(0, thing, 3, 5);
            due(17, "MISSING", x.count(4), thing + 1);
            due(13, "span with " + (thing + 1), x.span(EVEN, 1, true, 0) != NONE, true);
        }
        x.missing(1, 0, 3, 4);
        for (int view = FREE; view <= WHOLE; view++) {
            due(13, "span with five, least", x.span(view, 1, false, 0), NONE);
            due(13, "span with five, greatest", x.span(view, 0, true, 1), NONE);
        }
        due(7, "share with five", x.share(FREE, 1, 0) != NONE, true);
        x.missing(1, 0, 4, 4);
        due(13, "span with four again", x.span(FREE, 1, false, 0) != NONE, true);
        x.missing(1, 3, 3, 4);
        x.set(1, false);
        due(13, "the fifth is dropped", x.span(FREE, 0, false, 0), 1);
        x.set(1, true);
        due(13, "the fifth is taken back", x.span(FREE, 0, false, 0), NONE);
    }

    private static void spanCountsNoAlikeEnds() {
        EdgeBench x = bench(2, 2, row(4, 4, 4, 4), row(4, 4, 4, 4), row(8, 8, 4, 4));
        for (int place = 0; place < 8; place++) {
            x.missing(place / 4, place % 4, 4, 4);
        }
        due(17, "MISSING", x.count(4), 0);
        for (int view = FREE; view <= WHOLE; view++) {
            dueSpan(x, view, 2, false, 1, 2);
            dueSpan(x, view, 2, true, 1, 2);
        }
    }

    /** "Somewhere between the ends some WORK that is THERE takes nothing, or gives nothing." */
    private static void spanBare() {
        int[] lows = {0, 1};
        for (int low : lows) {
            for (int work = 0; work < 2; work++) {
                for (int thing = 0; thing < 2; thing++) {
                    EdgeBench x = bench(1, 1, row(4, 4), row(4, 4));
                    x.missing(work, thing, low, 9);
                    for (int view = FREE; view <= WHOLE; view++) {
                        due(13, "lower end " + low, x.span(view, 0, false, 0) != NONE, low > 0);
                        due(13, "lower end " + low, x.span(view, 0, true, 1) != NONE, low > 0);
                    }
                }
            }
        }
    }

    private static void spanBareOfTwo() {
        for (int side = 0; side < 2; side++) {
            int first = 2 * side;
            EdgeBench x = bench(2, 2, row(4, 4, 4, 4), row(4, 4, 4, 4));
            x.missing(1, first, 0, 9);
            due(13, "one of two may be 0", x.span(FREE, 0, false, 0) != NONE, true);
            x.missing(1, first + 1, 1, 9);
            due(13, "the other one may be 1", x.span(FREE, 0, false, 0) != NONE, true);
            x.missing(1, first + 1, 0, 9);
            due(13, "both may be 0", x.span(FREE, 0, false, 0), NONE);
            x.missing(1, first + 1, 0, 0);
            due(13, "the other one is 0", x.span(FREE, 0, false, 0), NONE);
            x.missing(1, first, 1, 9);
            due(13, "the first one is not", x.span(FREE, 0, false, 0) != NONE, true);
            x.missing(1, first, 0, 0);
            due(13, "both are 0", x.span(FREE, 0, false, 0), NONE);
        }
    }

    private static void spanBareDropped() {
        EdgeBench x = bench(1, 1, row(4, 4), row(4, 4));
        x.missing(1, 0, 0, 9);
        x.missing(1, 1, 0, 9);
        due(13, "it may be bare", x.span(FREE, 0, false, 0), NONE);
        x.set(1, false);
        dueSpan(x, FREE, 0, false, 1, 1);
        x.set(1, true);
        due(13, "it may be bare again", x.span(FREE, 0, false, 0), NONE);
    }

    /** "The least and the greatest that its SHARE is, wherever the MISSING numbers lie between their ends." */
    private static void spanAtBothEnds() {
        EdgeBench x = bench(1, 1, row(8, 4), row(4, 4));
        x.missing(1, 0, 1, 30);
        for (int view = FREE; view <= WHOLE; view++) {
            dueSpan(x, view, 0, false, 1, 8);
            dueSpan(x, view, 0, true, 1, 1);
            dueSpan(x, view, 1, false, 4, 15);
            dueSpan(x, view, 1, true, 1, 1);
            due(7, "share is told by the lower end", x.share(view, 0, 1), 8);
        }
        x.missing(1, 0, 4, 6);
        for (int view = FREE; view <= WHOLE; view++) {
            dueSpan(x, view, 0, false, 1, 2);
            dueSpan(x, view, 0, true, 3, 4);
        }
        x.missing(1, 0, 4, 4);
        x.missing(1, 1, 3, 8);
        dueSpan(x, FREE, 0, false, 1, 4);
        dueSpan(x, FREE, 0, true, 2, 3);
        dueSpan(x, WHOLE, 0, false, 1, 2);
        dueSpan(x, WHOLE, 0, true, 1, 1);
    }

    private static void spanOfItself() {
        EdgeBench x = bench(1, 1, row(8, 4), row(4, 4));
        x.missing(0, 0, 5, 30);
        for (int view = FREE; view <= WHOLE; view++) {
            dueSpan(x, view, 0, false, 2, 15);
            dueSpan(x, view, 0, true, 4, 5);
            dueSpan(x, view, 1, false, 1, 1);
        }
        x.missing(0, 0, 8, 8);
        x.missing(0, 1, 1, 5);
        dueSpan(x, FREE, 0, false, 1, 8);
        dueSpan(x, FREE, 0, true, 5, 8);
        dueSpan(x, LEAST, 0, true, 1, 1);
        dueSpan(x, EVEN, 0, false, 1, 2);
        dueSpan(x, EVEN, 0, true, 1, 1);
        due(7, "share is told by the upper end", x.share(FREE, 0, 0), 5);
    }

    /** The last of the THINGS counts, where INS and OUTS are not as many. */
    private static void spanOfLastThing() {
        EdgeBench two = bench(2, 1, row(8, 8, 4), row(4, 4, 4));
        two.missing(1, 2, 3, 8);
        dueSpan(two, FREE, 0, false, 1, 4);
        dueSpan(two, FREE, 0, true, 2, 3);
        two.missing(1, 2, 4, 4);
        two.missing(0, 2, 1, 5);
        dueSpan(two, FREE, 0, false, 1, 8);
        dueSpan(two, FREE, 0, true, 5, 8);
        EdgeBench one = bench(1, 2, row(8, 1, 4), row(4, 4, 4));
        one.missing(1, 2, 3, 8);
        dueSpan(one, FREE, 0, false, 1, 4);
        dueSpan(one, FREE, 0, true, 2, 3);
        one.missing(1, 2, 4, 4);
        one.missing(0, 2, 1, 5);
        dueSpan(one, FREE, 0, false, 1, 8);
        dueSpan(one, FREE, 0, true, 5, 8);
    }

    /** Which of two INS, or of two OUTS, may be 0 where there is one of the others. */
    private static void spanBareOfUnlike() {
        for (int low = 0; low <= 1; low++) {
            for (int free = 0; free < 2; free++) {
                EdgeBench ins = bench(2, 1, row(4, 4, 4), row(4, 4, 4));
                ins.missing(1, free, 0, 9);
                due(13, "one IN may be 0", ins.span(EVEN, 0, true, 0) != NONE, true);
                ins.missing(1, 1 - free, low, 9);
                due(13, "the other one from " + low, ins.span(EVEN, 0, true, 0) != NONE, low > 0);
                EdgeBench outs = bench(1, 2, row(4, 4, 4), row(4, 4, 4));
                outs.missing(1, 1 + free, 0, 9);
                due(13, "one OUT may be 0", outs.span(EVEN, 0, true, 0) != NONE, true);
                outs.missing(1, 2 - free, low, 9);
                due(13, "the other one from " + low, outs.span(EVEN, 0, true, 0) != NONE, low > 0);
            }
            EdgeBench out = bench(2, 1, row(4, 4, 4), row(4, 4, 4));
            out.missing(1, 2, low, 9);
            due(13, "the only OUT from " + low, out.span(EVEN, 0, true, 0) != NONE, low > 0);
            EdgeBench in = bench(1, 2, row(4, 4, 4), row(4, 4, 4));
            in.missing(1, 0, low, 9);
            due(13, "the only IN from " + low, in.span(EVEN, 0, true, 0) != NONE, low > 0);
        }
    }

    /** "Fractions are told in lowest terms: what 0 the numerator, 1 the denominator (of 0: 1)." */
    private static void lowestTerms() {
        EdgeBench x = bench(1, 1, row(30, 30), row(15, 30), row(30, 20));
        for (int view = FREE; view <= WHOLE; view++) {
            dueShare(x, view, 0, 1, 2);
            dueShare(x, view, 1, 1, 1);
            dueAbove(x, view, 1, 2, 1);
            dueCost(x, view, 30, 0, 1, 2);
            dueSpan(x, view, 0, false, 1, 2);
        }
        dueShare(x, FREE, 2, 1, 3);
        // No common divisor, and as great as a fraction of two works gets.
        dueShare(bench(1, 1, row(30, 29), row(29, 30)), FREE, 0, 841, 900);
        dueAbove(bench(1, 1, row(1, 30), row(30, 1)), FREE, 0, 900, 1);
    }
}
