/** The edges of the terms: which sums a VIEW allows, works that take or give nothing, STRONG, PEERS and SIZE. */
public final class TermsTest extends Checks {
    public static void main(String[] args) {
        viewsBoundTheFactors();
        viewsMix();
        shareOfInsThatAreNot();
        shareJustEnoughOuts();
        shareNought();
        wholeJustEnough();
        thereTillDropped();
        startLeavesNothing();
        missingIsTold();
        bareIns();
        bareOuts();
        bareBoth();
        bareStaysInSums();
        strongToTheUnit();
        strongBesideItsLike();
        strongBareBeside();
        strongAtAnySize();
        peersInSomeWay();
        peersOfNoFactor();
        sizeByOneUnit();
        sizeOfAllAlike();
        finish();
    }

    /** "With factors 0 or more"; "those whose factors sum up to 1 at most"; "to 1"; "one WORK alone". */
    private static void viewsBoundTheFactors() {
        int[] other = {10, 10};
        dueShares(bench(1, 1, row(20, 9), other), 0, 9, 20, 9, 20, 1, 2, 1, 2);
        dueShares(bench(1, 1, row(20, 10), other), 0, 1, 2, 1, 2, 1, 2, 1, 2);
        dueShares(bench(1, 1, row(20, 11), other), 0, 11, 20, 1, 1, 1, 1, 1, 1);
        dueShares(bench(1, 1, row(20, 20), other), 0, 1, 1, 1, 1, 1, 1, 1, 1);
    }

    private static void viewsMix() {
        int[] small = {2, 2};
        int[] great = {6, 6};
        dueShares(bench(1, 1, row(8, 1), small, great), 0, 1, 8, 1, 8, 1, 4, 1, 4);
        dueShares(bench(1, 1, row(8, 2), small, great), 0, 1, 4, 1, 4, 1, 4, 1, 4);
        dueShares(bench(1, 1, row(8, 3), small, great), 0, 3, 8, 3, 8, 3, 8, 3, 4);
        dueShares(bench(1, 1, row(8, 6), small, great), 0, 3, 4, 3, 4, 3, 4, 3, 4);
        dueShares(bench(1, 1, row(8, 7), small, great), 0, 7, 8, 1, 1, 1, 1, 1, 1);
        // Factors below 0 would make more of the one by less of the other.
        dueShares(bench(1, 2, row(9, 8, 1), row(3, 4, 1), row(3, 1, 1)), 0, 2, 3, 1, 1, 1, 1, 1, 1);
    }

    /** "Takes of each IN at most t times what w takes": no factor makes more of 0. */
    private static void shareOfInsThatAreNot() {
        dueShares(bench(2, 1, row(0, 4, 1), row(1, 1, 1)), 0, 1, 1, 1, 1, 1, 1, 1, 1);
        dueShares(bench(2, 1, row(0, 4, 1), row(0, 1, 1)), 0, 1, 4, 1, 4, 1, 4, 1, 4);
        dueShares(bench(2, 1, row(4, 0, 1), row(1, 1, 1)), 0, 1, 1, 1, 1, 1, 1, 1, 1);
        dueShares(bench(2, 1, row(4, 0, 1), row(1, 0, 1)), 0, 1, 4, 1, 4, 1, 4, 1, 4);
        dueShares(bench(2, 1, row(8, 4, 1), row(2, 2, 1)), 0, 1, 2, 1, 2, 1, 2, 1, 2);
    }

    /** "Gives of each OUT at least what w gives." */
    private static void shareJustEnoughOuts() {
        dueShares(bench(1, 2, row(2, 5, 5), row(1, 5, 5)), 0, 1, 2, 1, 2, 1, 2, 1, 2);
        dueShares(bench(1, 2, row(2, 5, 6), row(1, 5, 5)), 0, 3, 5, 1, 1, 1, 1, 1, 1);
        dueShares(bench(1, 2, row(2, 6, 5), row(1, 5, 5)), 0, 3, 5, 1, 1, 1, 1, 1, 1);
        dueShares(bench(1, 2, row(2, 5, 0), row(1, 5, 0)), 0, 1, 2, 1, 2, 1, 2, 1, 2);
        dueShares(bench(1, 2, row(2, 5, 1), row(1, 5, 0)), 0, 1, 1, 1, 1, 1, 1, 1, 1);
    }

    /** "The least factor t, 0 or more"; "of 0: 1". */
    private static void shareNought() {
        int[] outs = {5, 6, 7};
        for (int out : outs) {
            EdgeBench x = bench(1, 1, row(4, out), row(9, 6));
            x.missing(1, 0, 0, 9);
            int some = out <= 6 ? 0 : 1;
            dueShares(x, 0, 0, 1, some, 1, some, 1, some, 1);
            due(8, "strong by FREE with SHARE 0", x.strong(FREE, 0), 0);
            due(8, "strong by EVEN", x.strong(EVEN, 0), some);
            due(9, "peer by FREE", x.peer(FREE, 0, 1), 1);
            due(9, "itself by FREE", x.peer(FREE, 0, 0), 0);
            due(9, "peer by LEAST", x.peer(LEAST, 0, 1), 1 - some);
            due(9, "itself by LEAST", x.peer(LEAST, 0, 0), some);
            due(10, "size", x.size(0), some == 0 ? 0 : -1);
        }
    }

    /** "One WORK alone": it has to give all, whatever INS and OUTS there are. */
    private static void wholeJustEnough() {
        for (int given = 4; given <= 6; given++) {
            int half = given < 5 ? 1 : 2;
            dueShare(bench(2, 1, row(8, 8, 5), row(4, 4, given)), WHOLE, 0, 1, half);
            dueShare(bench(1, 2, row(8, 9, 5), row(4, 9, given)), WHOLE, 0, 1, half);
            dueShare(bench(1, 2, row(8, 5, 9), row(4, given, 9)), WHOLE, 0, 1, half);
            dueShare(bench(2, 2, row(8, 8, 9, 5), row(4, 4, 9, given)), WHOLE, 0, 1, half);
        }
    }

    /** "It is THERE, till it is dropped, and again when it is taken back." */
    private static void thereTillDropped() {
        EdgeBench x = bench(1, 1, row(4, 4), row(2, 4));
        dueShares(x, 0, 1, 2, 1, 2, 1, 2, 1, 2);
        x.set(1, false);
        dueShares(x, 0, 1, 1, 1, 1, 1, 1, 1, 1);
        due(9, "a dropped one", x.peer(FREE, 0, 1), NONE);
        due(10, "a dropped one", x.size(1), 2);
        dueSides(x, FREE, row(1, 1, 0), row(1, 0, 0));
        x.missing(1, 0, 1, 3);
        dueShares(x, 0, 1, 1, 1, 1, 1, 1, 1, 1);
        due(17, "MISSING while it is dropped", x.count(4), 0);
        x.set(1, true);
        dueShares(x, 0, 1, 4, 1, 4, 1, 4, 1, 4);
        due(17, "MISSING when it is taken back", x.count(4), 1);
        dueSides(x, FREE, row(4, 1, 0), row(1, 0, 0));
    }

    /** "No WORKS" after start(): nothing that was THERE is part of a sum. */
    private static void startLeavesNothing() {
        for (int outs = 1; outs <= 2; outs++) {
            EdgeBench x = bench(1, outs, row(9, 1, 1), row(1, 30, 30), row(1, 29, 29));
            x.missing(2, 0, 0, 0);
            x.set(0, false);
            due(2, "start", x.start(1, 1), true);
            due(3, "the first work", x.work(9, 1, 0, 0), 0);
            dueShares(x, 0, 1, 1, 1, 1, 1, 1, 1, 1);
            dueSides(x, FREE, row(1, 9, 0), row(1, 0, 0));
            dueSides(x, EVEN, row(1, 0, 9), row(0, 1, -1), row(0, 0, -1));
            due(11, "no other", x.above(FREE, 0, 0), NONE);
            due(9, "no peer", x.peer(FREE, 0, 1), NONE);
            due(3, "the next work", x.work(9, 3, 0, 0), 1);
            dueShare(x, FREE, 0, 1, 3);
            due(6, "it is told anew", x.at(1, 0, 0), 9);
        }
    }

    /** "Where nothing else is said it is the lower one of an IN, the greater one of an OUT." */
    private static void missingIsTold() {
        EdgeBench x = bench(2, 2, row(8, 8, 2, 2), row(4, 4, 2, 2));
        dueShares(x, 0, 1, 2, 1, 2, 1, 2, 1, 2);
        x.missing(1, 0, 2, 30);
        x.missing(1, 1, 2, 30);
        dueShares(x, 0, 1, 4, 1, 4, 1, 4, 1, 4);
        x.missing(1, 2, 0, 4);
        x.missing(1, 3, 0, 4);
        dueShares(x, 0, 1, 8, 1, 8, 1, 4, 1, 4);
        due(12, "cost of what is told", x.cost(FREE, 0, 1, 1, 1), 8);
        dueAbove(x, FREE, 0, 1, 8);
        dueAbove(x, FREE, 1, 8, 1);
        due(14, "sides of what is told", x.side(FREE, 0, 2) + x.side(FREE, 0, 3), 1);
        x.missing(1, 2, 2, 2);
        x.missing(1, 3, 2, 2);
        dueShares(x, 0, 1, 4, 1, 4, 1, 4, 1, 4);
        due(17, "alike ends are not MISSING", x.count(4), 2);
    }

    /** "It takes nothing": all INS are told as 0, by lower ends. */
    private static void bareIns() {
        EdgeBench one = bench(1, 1, row(5, 3), row(4, 6));
        one.missing(0, 0, 1, 5);
        dueHeld(one, true);
        one.missing(0, 0, 0, 5);
        dueHeld(one, false);
        one.missing(0, 0, 0, 0);
        dueHeld(one, false);
        one.missing(0, 0, 1, 1);
        dueHeld(one, true);
        EdgeBench two = bench(2, 1, row(5, 5, 3), row(4, 4, 6));
        two.missing(0, 0, 0, 5);
        dueHeld(two, true);
        two.missing(0, 1, 0, 5);
        dueHeld(two, false);
        two.missing(0, 0, 1, 5);
        dueHeld(two, true);
    }

    /** "Or gives nothing": all OUTS are told as 0, by upper ends. */
    private static void bareOuts() {
        EdgeBench one = bench(1, 1, row(5, 3), row(4, 6));
        one.missing(0, 1, 0, 1);
        dueHeld(one, true);
        one.missing(0, 1, 0, 0);
        dueHeld(one, false);
        one.missing(0, 1, 0, 30);
        dueHeld(one, true);
        EdgeBench two = bench(1, 2, row(5, 3, 3), row(4, 6, 6));
        two.missing(0, 1, 0, 0);
        dueHeld(two, true);
        two.missing(0, 2, 0, 0);
        dueHeld(two, false);
        two.missing(0, 1, 0, 1);
        dueHeld(two, true);
    }

    private static void bareBoth() {
        EdgeBench x = bench(1, 1, row(5, 3), row(4, 6));
        x.missing(0, 0, 0, 0);
        x.missing(0, 1, 0, 0);
        dueHeld(x, false);
        due(17, "it is THERE", x.count(3), 2);
        // By FREE any sum has room for what takes nothing; elsewhere the other's own factor is all that there may be.
        due(9, "peer by FREE", x.peer(FREE, 1, 0), 1);
        due(9, "peer by LEAST", x.peer(LEAST, 1, 0), 0);
        due(9, "peer by EVEN", x.peer(EVEN, 1, 0), 0);
        due(9, "peer by WHOLE", x.peer(WHOLE, 1, 0), 0);
        dueShares(x, 1, 1, 1, 1, 1, 1, 1, 1, 1);
    }

    /** Whether the calls that hold work 0 answer. */
    private static void dueHeld(EdgeBench x, boolean isHeld) {
        for (int view = FREE; view <= WHOLE; view++) {
            due(7, "share of what may be bare", x.share(view, 0, 0) != NONE, isHeld);
            due(7, "share of what may be bare", x.share(view, 0, 1) != NONE, isHeld);
            due(8, "strong of what may be bare", x.strong(view, 0) != NONE, isHeld);
            due(9, "peer of what may be bare", x.peer(view, 0, 1) != NONE, isHeld);
            due(9, "peer that may be bare", x.peer(view, 1, 0) != NONE, true);
            due(12, "cost of what may be bare", x.cost(view, 0, 1, 1, 0) != NONE, isHeld);
            due(16, "suits of what may be bare", x.suits(view, 0, 0) != NONE, isHeld && view != WHOLE);
            if (!isHeld) {
                due(11, "above of what is bare", x.above(view, 0, 0), NONE);
                due(13, "span of what is bare", x.span(view, 0, true, 0), NONE);
            }
        }
        due(10, "size of what may be bare", x.size(0) != 2, isHeld);
        due(17, "it is a WORK THERE", x.count(3), 2);
    }

    /** "Left as it is": sums are made of it, and it has its ends. */
    private static void bareStaysInSums() {
        EdgeBench x = bench(2, 1, row(5, 5, 6), row(4, 4, 6));
        x.missing(0, 0, 0, 5);
        x.missing(0, 1, 0, 4);
        due(6, "its upper end", x.at(0, 1, 1), 4);
        dueShares(x, 1, 0, 1, 0, 1, 0, 1, 0, 1);
        dueAbove(x, EVEN, 1, 0, 1);
        dueSides(x, FREE, row(1, 0, 0, 0), row(0, 1, 0, 0));
        x.set(0, false);
        dueShares(x, 1, 1, 1, 1, 1, 1, 1, 1, 1);
        EdgeBench y = bench(1, 1, row(5, 6), row(4, 6));
        y.missing(0, 1, 0, 0);
        y.missing(0, 0, 2, 2);
        // It makes the cheap half of a sum that has to sum up to 1.
        y.work(9, 3, 0, 0);
        dueShare(y, LEAST, 2, 2, 9);
        dueShare(y, EVEN, 2, 1, 3);
        due(9, "peer that gives nothing", y.peer(EVEN, 2, 0), 1);
        due(9, "peer that gives nothing", y.peer(LEAST, 2, 0), 0);
    }

    /** "Takes of each IN and gives of each OUT just what it does itself": one unit beside it is not just that. */
    private static void strongToTheUnit() {
        int[] own = {5, 5, 5, 5};
        for (int thing = 0; thing < 4; thing++) {
            int[] better = own.clone();
            int[] worse = own.clone();
            better[thing] += thing < 2 ? -1 : 1;
            worse[thing] += thing < 2 ? 1 : -1;
            for (int view = FREE; view <= WHOLE; view++) {
                due(8, "with a better one", bench(2, 2, own, better).strong(view, 0), 0);
                due(8, "the better one", bench(2, 2, own, better).strong(view, 1), 1);
                due(8, "with a worse one", bench(2, 2, own, worse).strong(view, 0), 1);
                due(8, "the worse one", bench(2, 2, own, worse).strong(view, 1), 0);
            }
            EdgeBench x = bench(2, 2, own, better);
            dueShares(x, 0, 1, 1, 1, 1, 1, 1, 1, 1);
        }
    }

    /** "Each BEST WAY": another one's is allowed, if it is just alike; and a half and a half of two are, too. */
    private static void strongBesideItsLike() {
        EdgeBench x = bench(2, 1, row(4, 4, 3), row(4, 4, 3), row(2, 6, 3), row(6, 2, 3));
        for (int view = FREE; view <= WHOLE; view++) {
            due(8, "on the line between two", x.strong(view, 0), 1);
            due(9, "its like", x.peer(view, 0, 1), 1);
            due(9, "one of the two", x.peer(view, 0, 2), view == WHOLE ? 0 : 1);
        }
        x.missing(2, 1, 5, 5);
        for (int view = FREE; view <= WHOLE; view++) {
            due(8, "within the line", x.strong(view, 0), view == WHOLE ? 1 : 0);
        }
        x.missing(2, 1, 7, 7);
        for (int view = FREE; view <= WHOLE; view++) {
            due(8, "outside the line", x.strong(view, 0), 1);
            due(9, "one of the two", x.peer(view, 0, 2), 0);
        }
    }

    /** With SHARE 1, and one that takes nothing of what the others need not. */
    private static void strongBareBeside() {
        EdgeBench x = bench(2, 1, row(0, 4, 3), row(5, 4, 3));
        for (int view = FREE; view <= WHOLE; view++) {
            dueShare(x, view, 1, 1, 1);
            due(8, "one takes nothing of the first", x.strong(view, 0), 1);
            due(8, "the other one takes it for nothing", x.strong(view, 1), 0);
        }
    }

    /** Where LAST is 0 for all that is best: between two that make as much of each. */
    private static void strongAtAnySize() {
        EdgeBench x = bench(1, 1, row(3, 4), row(6, 8), row(9, 12), row(6, 7));
        for (int view = FREE; view <= WHOLE; view++) {
            for (int work = 0; work < 4; work++) {
                due(8, "strong(" + view + ", " + work + ")", x.strong(view, work), work < 3 ? 1 : 0);
            }
        }
    }

    /** "That have a factor above 0 in some BEST WAY." */
    private static void peersInSomeWay() {
        EdgeBench x = bench(1, 1, row(9, 4), row(2, 2), row(4, 4), row(6, 6), row(6, 5));
        int[][] peers = {{0, 1, 1, 1, 0}, {0, 1, 1, 1, 0}, {0, 1, 1, 1, 0}, {0, 0, 1, 0, 0}};
        for (int view = FREE; view <= WHOLE; view++) {
            for (int other = 0; other < 5; other++) {
                due(9, "peer(" + view + ", 0, " + other + ")", x.peer(view, 0, other), peers[view][other]);
            }
        }
        EdgeBench small = bench(1, 1, row(9, 1), row(2, 2), row(4, 4));
        int[][] smallPeers = {{0, 1, 1}, {0, 1, 1}, {0, 1, 0}, {0, 1, 0}};
        EdgeBench great = bench(1, 1, row(9, 4), row(2, 2), row(4, 4));
        int[][] greatPeers = {{0, 1, 1}, {0, 0, 1}, {0, 0, 1}, {0, 0, 1}};
        for (int view = FREE; view <= WHOLE; view++) {
            for (int other = 0; other < 3; other++) {
                due(9, "peers of a small one", small.peer(view, 0, other), smallPeers[view][other]);
                due(9, "peers of a great one", great.peer(view, 0, other), greatPeers[view][other]);
            }
        }
    }

    private static void peersOfNoFactor() {
        // Of what 0 takes for nothing, another one may take more: but not if it takes more of the rest.
        EdgeBench x = bench(2, 1, row(4, 9, 2), row(4, 8, 2), row(4, 10, 2), row(5, 1, 2));
        int[][] peers = {{1, 1, 1, 0}, {1, 1, 1, 0}, {1, 1, 1, 0}, {1, 1, 0, 0}};
        for (int view = FREE; view <= WHOLE; view++) {
            for (int other = 0; other < 4; other++) {
                due(9, "peer(" + view + ", 0, " + other + ")", x.peer(view, 0, other), peers[view][other]);
            }
        }
    }

    /** "0 if the SHARES by FREE and EVEN are alike; else 1 (too small), if those by FREE and LEAST are; else -1." */
    private static void sizeByOneUnit() {
        int[] sizes = {1, 1, 1, 0, 0, 0, 0, 0, -1, -1};
        for (int out = 1; out <= sizes.length; out++) {
            EdgeBench x = bench(1, 1, row(12, out), row(3, 4), row(6, 8));
            due(10, "giving " + out, x.size(0), sizes[out - 1]);
        }
        due(10, "giving as little as the least of the best", bench(1, 1, row(3, 4), row(6, 8)).size(0), 0);
    }

    private static void sizeOfAllAlike() {
        due(10, "the only one", bench(1, 1, row(30, 1)).size(0), 0);
        due(10, "the only one of two", bench(2, 2, row(0, 1, 30, 0)).size(0), 0);
        EdgeBench x = bench(1, 1, row(3, 4), row(1, 4));
        due(10, "with another one", x.size(0), 0);
        x.missing(1, 1, 0, 3);
        due(10, "with a small one", x.size(0), -1);
        x.set(1, false);
        due(10, "when that is dropped", x.size(0), 0);
        due(10, "the dropped one", x.size(1), 2);
    }
}
