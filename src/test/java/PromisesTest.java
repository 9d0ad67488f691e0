/** Each promise by hand: ordinary calls, the edges that the document names, and calls that are refused. */
public final class PromisesTest extends Checks {
    public static void main(String[] args) {
        newObject();
        start();
        startAfterWorks();
        work();
        workBounds();
        set();
        missing();
        missingRefused();
        at();
        share();
        shareRefused();
        shareOfBareWorks();
        strong();
        peer();
        peerByWhole();
        size();
        above();
        cost();
        costOfTwo();
        span();
        spanOfIns();
        spanRefused();
        sides();
        side();
        suits();
        count();
        finish();
    }

    /** One IN, one OUT; 1 is the best, 0 too small, 2 too great, 3 dull and small. */
    private static EdgeBench four() {
        EdgeBench x = new EdgeBench();
        x.work(2, 1, 0, 0);
        x.work(3, 4, 0, 0);
        x.work(6, 6, 0, 0);
        x.work(5, 3, 0, 0);
        return x;
    }

    /** Two INS, one OUT. */
    private static EdgeBench three() {
        EdgeBench x = new EdgeBench();
        x.start(2, 1);
        x.work(2, 4, 1, 0);
        x.work(4, 2, 1, 0);
        x.work(4, 4, 1, 0);
        return x;
    }

    private static void newObject() {
        EdgeBench x = new EdgeBench();
        due(1, "NONE", EdgeBench.NONE, NONE);
        due(1, "count(0)", x.count(0), 1);
        due(1, "count(1)", x.count(1), 1);
        due(1, "count(2)", x.count(2), 0);
        due(1, "count(3)", x.count(3), 0);
        due(1, "count(4)", x.count(4), 0);
        due(1, "sides(0)", x.sides(FREE), NONE);
        due(1, "share(0, 0, 0)", x.share(FREE, 0, 0), NONE);
        due(1, "size(0)", x.size(0), 2);
        due(1, "at(0, 0, 0)", x.at(0, 0, 0), NONE);
        due(1, "the first work", x.work(30, 30, 0, 0), 0);
    }

    private static void start() {
        EdgeBench x = new EdgeBench();
        for (int ins = -1; ins <= 4; ins++) {
            for (int outs = -1; outs <= 4; outs++) {
                boolean good = ins >= 1 && ins <= 2 && outs >= 1 && outs <= 2;
                x.start(2, 1);
                due(2, "start(" + ins + ", " + outs + ")", x.start(ins, outs), good);
                due(2, "INS after it", x.count(0), good ? ins : 2);
                due(2, "OUTS after it", x.count(1), good ? outs : 1);
            }
        }
        due(2, "start of the least number", x.start(Integer.MIN_VALUE, 1), false);
        due(2, "start of the greatest number", x.start(1, Integer.MAX_VALUE), false);
    }

    private static void startAfterWorks() {
        EdgeBench x = three();
        x.missing(0, 0, 1, 5);
        x.set(1, false);
        due(2, "start(3, 1)", x.start(3, 1), false);
        due(2, "works after a refused start", x.count(2), 3);
        due(2, "MISSING after a refused start", x.count(4), 1);
        due(2, "start(2, 1)", x.start(2, 1), true);
        due(2, "works after start", x.count(2), 0);
        due(2, "works THERE after start", x.count(3), 0);
        due(2, "MISSING after start", x.count(4), 0);
        due(2, "sides after start", x.sides(EVEN), NONE);
        due(2, "at after start", x.at(0, 0, 0), NONE);
        due(2, "set after start", x.set(0, false), false);
        due(2, "work after start", x.work(3, 3, 3, 0), 0);
        due(2, "the new work's number", x.at(0, 0, 1), 3);
        due(2, "THERE after start", x.count(3), 1);
        due(2, "the sides of the new work", x.sides(FREE), 4);
    }

    private static void work() {
        EdgeBench x = new EdgeBench();
        due(3, "others don't matter", x.work(1, 30, -7, 99), 0);
        x.start(1, 2);
        due(3, "work(5, 6, 7, -1) of 1, 2", x.work(5, 6, 7, -1), 0);
        due(3, "work(5, 0, 7, 31) of 1, 2", x.work(5, 0, 7, 31), 1);
        due(3, "IN", x.at(1, 0, 0), 5);
        due(3, "first OUT", x.at(1, 1, 0), 0);
        due(3, "second OUT", x.at(1, 2, 1), 7);
        due(3, "no IN", x.work(0, 6, 7, 0), NONE);
        due(3, "no OUT", x.work(5, 0, 0, 4), NONE);
        x.start(2, 1);
        due(3, "no first IN", x.work(0, 3, 1, 0), 0);
        due(3, "no second IN", x.work(3, 0, 1, 0), 1);
        due(3, "no IN of two", x.work(0, 0, 1, 5), NONE);
        due(3, "no OUT behind two INS", x.work(1, 1, 0, 5), NONE);
        x.start(2, 2);
        due(3, "work(1, 2, 3, 4)", x.work(1, 2, 3, 4), 0);
        due(3, "at(0, 3, 0)", x.at(0, 3, 0), 4);
        due(3, "no OUT of two", x.work(1, 2, 0, 0), NONE);
        due(3, "works", x.count(2), 1);
    }

    private static void workBounds() {
        EdgeBench x = new EdgeBench();
        x.start(2, 2);
        int[] bad = {-1, 31, Integer.MIN_VALUE, Integer.MAX_VALUE};
        for (int number : bad) {
            due(3, "first out of bounds", x.work(number, 1, 1, 1), NONE);
            due(3, "second out of bounds", x.work(1, number, 1, 1), NONE);
            due(3, "third out of bounds", x.work(1, 1, number, 1), NONE);
            due(3, "fourth out of bounds", x.work(1, 1, 1, number), NONE);
        }
        due(3, "none after refusals", x.count(2), 0);
        for (int i = 0; i < 12; i++) {
            due(3, "work " + i, x.work(30, 0, 0, 30), i);
        }
        due(3, "the thirteenth", x.work(1, 1, 1, 1), NONE);
        x.set(4, false);
        due(3, "the thirteenth, one being dropped", x.work(1, 1, 1, 1), NONE);
        due(3, "twelve", x.count(2), 12);
        due(3, "all twelve are weighed", x.peer(FREE, 0, 11), 1);
    }

    private static void set() {
        EdgeBench x = four();
        due(4, "set(1, true) at once", x.set(1, true), false);
        due(4, "set(1, false)", x.set(1, false), true);
        due(4, "set(1, false) again", x.set(1, false), false);
        due(4, "THERE", x.count(3), 3);
        dueShare(x, FREE, 0, 1, 2);
        due(4, "share of a dropped one", x.share(FREE, 1, 0), NONE);
        due(4, "set(1, true)", x.set(1, true), true);
        due(4, "set(1, true) again", x.set(1, true), false);
        dueShare(x, FREE, 0, 3, 8);
        due(4, "set(-1, false)", x.set(-1, false), false);
        due(4, "set(4, false)", x.set(4, false), false);
        due(4, "set(4, true)", x.set(4, true), false);
        due(4, "set of the least", x.set(Integer.MIN_VALUE, true), false);
        due(4, "set of the greatest", x.set(Integer.MAX_VALUE, false), false);
        due(4, "THERE after refusals", x.count(3), 4);
    }

    private static void missing() {
        EdgeBench x = four();
        due(5, "missing(1, 1, 2, 3)", x.missing(1, 1, 2, 3), true);
        dueShare(x, FREE, 1, 1, 1);
        dueShare(x, FREE, 0, 1, 2);
        due(5, "missing(1, 0, 2, 3)", x.missing(1, 0, 2, 3), true);
        dueShare(x, FREE, 0, 1, 3);
        due(5, "MISSING", x.count(4), 2);
        due(5, "alike ends", x.missing(1, 0, 4, 4), true);
        due(5, "MISSING then", x.count(4), 1);
        dueShare(x, FREE, 1, 3, 4);
        due(5, "bounds", x.missing(0, 0, 0, 30), true);
        due(5, "lower bound", x.at(0, 0, 0), 0);
        due(5, "upper bound", x.at(0, 0, 1), 30);
        x.set(2, false);
        due(5, "of a dropped one", x.missing(2, 1, 5, 7), true);
        due(5, "MISSING of those THERE", x.count(4), 2);
        x.set(2, true);
        due(5, "MISSING when it is back", x.count(4), 3);
    }

    private static void missingRefused() {
        EdgeBench x = four();
        due(5, "no such work", x.missing(4, 0, 1, 2), false);
        due(5, "work -1", x.missing(-1, 0, 1, 2), false);
        due(5, "no such thing", x.missing(0, 2, 1, 2), false);
        due(5, "thing -1", x.missing(0, -1, 1, 2), false);
        due(5, "lower end out of bounds", x.missing(0, 0, -1, 2), false);
        due(5, "upper end out of bounds", x.missing(0, 0, 1, 31), false);
        due(5, "both out of bounds", x.missing(0, 0, 31, 31), false);
        due(5, "ends the wrong way", x.missing(0, 0, 5, 4), false);
        due(5, "wild", x.missing(Integer.MAX_VALUE, Integer.MIN_VALUE, 0, 1), false);
        due(5, "MISSING after refusals", x.count(4), 0);
        due(5, "the number after refusals", x.at(0, 0, 0), 2);
    }

    private static void at() {
        EdgeBench x = three();
        x.missing(1, 2, 3, 9);
        due(6, "lower end", x.at(1, 2, 0), 3);
        due(6, "upper end", x.at(1, 2, 1), 9);
        due(6, "lower end of one that is not MISSING", x.at(1, 0, 0), 4);
        due(6, "upper end of one that is not MISSING", x.at(1, 1, 1), 2);
        due(6, "what 2", x.at(1, 1, 2), NONE);
        due(6, "what -1", x.at(1, 1, -1), NONE);
        due(6, "thing 3", x.at(1, 3, 0), NONE);
        due(6, "thing -1", x.at(1, -1, 0), NONE);
        due(6, "work 3", x.at(3, 0, 0), NONE);
        due(6, "work -1", x.at(-1, 0, 0), NONE);
        due(6, "wild", x.at(Integer.MAX_VALUE, Integer.MAX_VALUE, 0), NONE);
        x.set(1, false);
        due(6, "of a dropped one", x.at(1, 2, 0), 3);
    }

    private static void share() {
        EdgeBench x = four();
        dueShare(x, FREE, 0, 3, 8);
        dueShare(x, FREE, 1, 1, 1);
        dueShare(x, FREE, 2, 3, 4);
        dueShare(x, FREE, 3, 9, 20);
        dueShare(x, LEAST, 0, 3, 8);
        dueShare(x, LEAST, 2, 1, 1);
        dueShare(x, LEAST, 3, 9, 20);
        dueShare(x, EVEN, 0, 1, 1);
        dueShare(x, EVEN, 2, 1, 1);
        dueShare(x, EVEN, 3, 8, 15);
        dueShare(x, WHOLE, 0, 1, 1);
        dueShare(x, WHOLE, 2, 1, 1);
        dueShare(x, WHOLE, 3, 3, 5);
        dueShare(three(), FREE, 2, 3, 4);
        dueShare(three(), WHOLE, 2, 1, 1);
    }

    private static void shareRefused() {
        EdgeBench x = four();
        due(7, "view -1", x.share(-1, 0, 0), NONE);
        due(7, "view 4", x.share(4, 0, 0), NONE);
        due(7, "work -1", x.share(FREE, -1, 0), NONE);
        due(7, "work 4", x.share(FREE, 4, 0), NONE);
        due(7, "what -1", x.share(FREE, 0, -1), NONE);
        due(7, "what 2", x.share(FREE, 0, 2), NONE);
        x.set(3, false);
        for (int view = FREE; view <= WHOLE; view++) {
            due(7, "dropped", x.share(view, 3, 1), NONE);
        }
    }

    /** A work that takes nothing, or gives nothing, is one of those that sums are made of, and is not held itself. */
    private static void shareOfBareWorks() {
        EdgeBench x = new EdgeBench();
        x.work(5, 3, 0, 0);
        x.work(4, 6, 0, 0);
        x.missing(0, 0, 0, 5);
        due(7, "it takes nothing", x.share(FREE, 0, 0), NONE);
        dueShare(x, FREE, 1, 0, 1);
        dueShare(x, LEAST, 1, 1, 1);
        dueShare(x, EVEN, 1, 1, 1);
        dueShare(x, WHOLE, 1, 1, 1);
        due(8, "strong, taking nothing", x.strong(FREE, 0), NONE);
        due(8, "strong with share 0", x.strong(FREE, 1), 0);
        due(9, "peer of what takes nothing", x.peer(FREE, 0, 1), NONE);
        due(9, "peer that takes nothing", x.peer(FREE, 1, 0), 1);
        due(9, "no peer then", x.peer(FREE, 1, 1), 0);
        due(10, "size, taking nothing", x.size(0), 2);
        due(10, "size of the other", x.size(1), -1);
        due(11, "above, taking nothing", x.above(FREE, 0, 0), NONE);
        dueAbove(x, FREE, 1, 0, 1);
        due(12, "cost, taking nothing", x.cost(FREE, 0, 1, 0, 0), NONE);
        due(12, "cost 0", x.cost(FREE, 1, 1, 0, 0), 0);
        due(12, "of 0: 1", x.cost(FREE, 1, 1, 0, 1), 1);
        due(14, "its sides", x.sides(FREE), 1);
        due(16, "suits, taking nothing", x.suits(FREE, 0, 0), NONE);
        due(16, "the side with nothing of OUTS", x.suits(FREE, 1, 0), 1);
        x.missing(0, 0, 5, 5);
        x.missing(0, 1, 0, 0);
        due(7, "it gives nothing", x.share(EVEN, 0, 0), NONE);
        due(10, "size, giving nothing", x.size(0), 2);
        due(16, "suits, giving nothing", x.suits(FREE, 0, 0), NONE);
        dueShare(x, EVEN, 1, 1, 1);
        due(9, "peer that gives nothing", x.peer(EVEN, 1, 0), 0);
    }

    private static void strong() {
        EdgeBench x = four();
        due(8, "FREE 0", x.strong(FREE, 0), 0);
        due(8, "FREE 1", x.strong(FREE, 1), 1);
        due(8, "LEAST 0", x.strong(LEAST, 0), 0);
        due(8, "LEAST 2", x.strong(LEAST, 2), 1);
        due(8, "EVEN 0", x.strong(EVEN, 0), 1);
        due(8, "EVEN 3", x.strong(EVEN, 3), 0);
        due(8, "WHOLE 0", x.strong(WHOLE, 0), 1);
        due(8, "WHOLE 3", x.strong(WHOLE, 3), 0);
        due(8, "view 4", x.strong(4, 0), NONE);
        due(8, "view -1", x.strong(-1, 0), NONE);
        due(8, "work 4", x.strong(FREE, 4), NONE);
        x.set(1, false);
        due(8, "dropped", x.strong(FREE, 1), NONE);
        x.start(2, 1);
        x.work(2, 2, 1, 0);
        x.work(2, 3, 1, 0);
        x.work(2, 2, 1, 0);
        for (int view = FREE; view <= WHOLE; view++) {
            dueShare(x, view, 1, 1, 1);
            due(8, "SHARE 1, with less of one IN", x.strong(view, 1), 0);
            due(8, "another just alike", x.strong(view, 0), 1);
        }
        x.start(2, 1);
        x.work(3, 2, 1, 0);
        x.work(2, 2, 1, 0);
        for (int view = FREE; view <= WHOLE; view++) {
            due(8, "SHARE 1, with less of the first IN", x.strong(view, 0), 0);
        }
        x.start(1, 2);
        x.work(2, 2, 1, 0);
        x.work(2, 2, 3, 0);
        for (int view = FREE; view <= WHOLE; view++) {
            due(8, "SHARE 1, with more of one OUT", x.strong(view, 0), 0);
            due(8, "the one with more", x.strong(view, 1), 1);
        }
    }

    private static void peer() {
        EdgeBench x = four();
        int[][] peers = {{0, 1, 0, 0}, {0, 1, 0, 0}, {1, 1, 0, 0}, {0, 1, 0, 0}};
        for (int view = FREE; view <= WHOLE; view++) {
            for (int other = 0; other < 4; other++) {
                due(9, "peer(" + view + ", 3, " + other + ")", x.peer(view, 3, other), peers[view][other]);
            }
        }
        due(9, "itself", x.peer(FREE, 1, 1), 1);
        due(9, "view 4", x.peer(4, 1, 1), NONE);
        due(9, "view -1", x.peer(-1, 1, 1), NONE);
        due(9, "work -1", x.peer(FREE, -1, 1), NONE);
        due(9, "work 4", x.peer(FREE, 4, 1), NONE);
        due(9, "other -1", x.peer(FREE, 1, -1), NONE);
        due(9, "other 4", x.peer(FREE, 1, 4), NONE);
        due(9, "other wild", x.peer(FREE, 1, Integer.MAX_VALUE), NONE);
        x.set(2, false);
        due(9, "other dropped", x.peer(FREE, 1, 2), NONE);
        due(9, "work dropped", x.peer(FREE, 2, 1), NONE);
        due(9, "two make it", three().peer(FREE, 2, 0), 1);
        due(9, "not itself", three().peer(FREE, 2, 2), 0);
    }

    private static void peerByWhole() {
        EdgeBench x = new EdgeBench();
        x.start(2, 1);
        x.work(2, 2, 1, 0);
        x.work(2, 3, 1, 0);
        x.work(2, 4, 1, 0);
        for (int view = FREE; view <= WHOLE; view++) {
            due(9, "a better one", x.peer(view, 1, 0), 1);
            due(9, "itself", x.peer(view, 1, 1), 1);
            due(9, "a worse one of the best", x.peer(view, 0, 1), 0);
        }
        // Beside 0 a sum has room for the one that takes more.
        due(9, "a worse one in a sum", x.peer(EVEN, 1, 2), 1);
        due(9, "a worse one alone", x.peer(WHOLE, 1, 2), 0);
        due(9, "three that serve", x.peer(WHOLE, 2, 1), 1);
    }

    private static void size() {
        EdgeBench x = four();
        due(10, "too small", x.size(0), 1);
        due(10, "alike", x.size(1), 0);
        due(10, "too great", x.size(2), -1);
        due(10, "too small and dull", x.size(3), 1);
        due(10, "work 4", x.size(4), 2);
        due(10, "work -1", x.size(-1), 2);
        x.set(0, false);
        due(10, "dropped", x.size(0), 2);
    }

    private static void above() {
        EdgeBench x = four();
        dueAbove(x, FREE, 0, 3, 8);
        dueAbove(x, FREE, 1, 4, 3);
        dueAbove(x, FREE, 2, 3, 4);
        dueAbove(x, LEAST, 2, NONE, NONE);
        dueAbove(x, LEAST, 1, 4, 3);
        dueAbove(x, EVEN, 0, 3, 2);
        dueAbove(x, EVEN, 2, NONE, NONE);
        // Of 0 and 2 together: 4 is given for 22/5.
        dueAbove(x, EVEN, 1, 22, 15);
        dueAbove(x, WHOLE, 1, 2, 1);
        dueAbove(x, WHOLE, 2, NONE, NONE);
        dueAbove(x, WHOLE, 3, 3, 5);
        due(11, "view 4", x.above(4, 0, 0), NONE);
        due(11, "view -1", x.above(-1, 0, 0), NONE);
        due(11, "work 4", x.above(FREE, 4, 0), NONE);
        due(11, "what 2", x.above(FREE, 0, 2), NONE);
        due(11, "what -1", x.above(FREE, 0, -1), NONE);
        dueShare(x, FREE, 0, 3, 8);
        x.set(1, false);
        due(11, "dropped", x.above(FREE, 1, 0), NONE);
        x.set(2, false);
        x.set(3, false);
        for (int view = FREE; view <= WHOLE; view++) {
            dueAbove(x, view, 0, NONE, NONE);
        }
        x.start(2, 1);
        x.work(0, 3, 1, 0);
        x.work(3, 0, 1, 0);
        for (int view = FREE; view <= WHOLE; view++) {
            dueAbove(x, view, 0, NONE, NONE);
            dueShare(x, view, 0, 1, 1);
        }
    }

    private static void cost() {
        EdgeBench x = four();
        due(12, "one price, FREE", x.cost(FREE, 3, 7, 0, 0), 9);
        due(12, "one price, FREE", x.cost(FREE, 3, 7, 0, 1), 20);
        due(12, "the second is not asked", x.cost(EVEN, 3, 30, -5, 0), 8);
        due(12, "the second is not asked", x.cost(EVEN, 3, 1, Integer.MAX_VALUE, 1), 15);
        due(12, "WHOLE", x.cost(WHOLE, 3, 1, 99, 1), 5);
        due(12, "price 0", x.cost(FREE, 3, 0, 5, 0), NONE);
        due(12, "price 31", x.cost(FREE, 3, 31, 0, 0), NONE);
        due(12, "price -1", x.cost(FREE, 3, -1, 0, 0), NONE);
        due(12, "view 4", x.cost(4, 3, 1, 0, 0), NONE);
        due(12, "view -1", x.cost(-1, 3, 1, 0, 0), NONE);
        due(12, "work 4", x.cost(FREE, 4, 1, 0, 0), NONE);
        due(12, "what 2", x.cost(FREE, 3, 1, 0, 2), NONE);
        due(12, "what -1", x.cost(FREE, 3, 1, 0, -1), NONE);
        x.set(3, false);
        due(12, "dropped", x.cost(FREE, 3, 1, 0, 0), NONE);
    }

    private static void costOfTwo() {
        EdgeBench x = three();
        // 14, 10 and 16 are the prices of what they take.
        due(12, "FREE", x.cost(FREE, 2, 1, 3, 0), 5);
        due(12, "FREE", x.cost(FREE, 2, 1, 3, 1), 8);
        due(12, "WHOLE", x.cost(WHOLE, 0, 1, 3, 0), 5);
        due(12, "WHOLE", x.cost(WHOLE, 0, 1, 3, 1), 7);
        due(12, "the second alone", x.cost(EVEN, 0, 0, 30, 1), 2);
        due(12, "the first alone", x.cost(LEAST, 0, 30, 0, 1), 1);
        due(12, "no prices", x.cost(FREE, 2, 0, 0, 0), NONE);
        due(12, "second price 31", x.cost(FREE, 2, 1, 31, 0), NONE);
        due(12, "second price -1", x.cost(FREE, 2, 1, -1, 0), NONE);
        x.work(0, 6, 1, 0);
        due(12, "what it takes has no price", x.cost(FREE, 3, 5, 0, 0), NONE);
        due(12, "it takes what costs nothing", x.cost(FREE, 2, 5, 0, 0), 0);
        due(12, "of 0: 1", x.cost(FREE, 2, 5, 0, 1), 1);
        x.start(2, 2);
        x.work(1, 2, 3, 1);
        x.work(2, 1, 1, 3);
        x.work(9, 9, 4, 4);
        // Both once give 4 and 4 for 6 of each price's sum; 18 is the work's own.
        due(12, "two OUTS", x.cost(FREE, 2, 1, 1, 0), 1);
        due(12, "two OUTS", x.cost(FREE, 2, 1, 1, 1), 3);
        due(12, "two OUTS, EVEN", x.cost(EVEN, 2, 1, 1, 0), 1);
    }

    private static void span() {
        EdgeBench x = new EdgeBench();
        x.work(2, 3, 0, 0);
        x.work(4, 6, 0, 0);
        dueSpan(x, FREE, 0, false, 1, 1);
        x.missing(0, 1, 2, 4);
        dueSpan(x, FREE, 0, false, 2, 3);
        dueSpan(x, FREE, 0, true, 1, 1);
        dueSpan(x, FREE, 1, false, 3, 4);
        dueSpan(x, FREE, 1, true, 1, 1);
        dueSpan(x, EVEN, 1, false, 1, 1);
        dueSpan(x, LEAST, 0, false, 2, 3);
        dueSpan(x, WHOLE, 0, false, 1, 1);
        dueShare(x, FREE, 1, 3, 4);
        x.missing(1, 0, 2, 8);
        dueSpan(x, FREE, 1, false, 3, 8);
        dueSpan(x, FREE, 1, true, 1, 1);
        dueSpan(x, FREE, 0, false, 1, 3);
        dueSpan(x, WHOLE, 0, false, 1, 1);
        due(13, "view 4", x.span(4, 0, true, 0), NONE);
        due(13, "view -1", x.span(-1, 0, true, 0), NONE);
        due(13, "work 2", x.span(FREE, 2, true, 0), NONE);
        due(13, "what 2", x.span(FREE, 0, true, 2), NONE);
        due(13, "what -1", x.span(FREE, 0, true, -1), NONE);
        x.set(0, false);
        due(13, "dropped", x.span(FREE, 0, true, 0), NONE);
        dueSpan(x, FREE, 1, false, 1, 1);
    }

    private static void spanOfIns() {
        EdgeBench x = new EdgeBench();
        x.work(4, 5, 0, 0);
        x.work(6, 5, 0, 0);
        x.missing(0, 0, 3, 8);
        for (int view = FREE; view <= WHOLE; view++) {
            dueSpan(x, view, 0, false, 3, 4);
            dueSpan(x, view, 0, true, 1, 1);
            dueSpan(x, view, 1, false, 1, 2);
            dueSpan(x, view, 1, true, 1, 1);
        }
    }

    private static void spanRefused() {
        EdgeBench x = new EdgeBench();
        for (int i = 0; i < 5; i++) {
            x.work(4, 4, 0, 0);
        }
        for (int i = 0; i < 4; i++) {
            x.missing(i, 1, 3, 4);
        }
        dueSpan(x, FREE, 4, false, 1, 1);
        dueSpan(x, FREE, 0, false, 3, 4);
        x.missing(4, 1, 3, 4);
        due(13, "five MISSING", x.span(FREE, 0, false, 0), NONE);
        x.set(4, false);
        dueSpan(x, FREE, 0, false, 3, 4);
        x.missing(3, 1, 0, 4);
        due(13, "one may give nothing", x.span(FREE, 0, false, 0), NONE);
        x.missing(3, 1, 4, 4);
        x.missing(3, 0, 0, 4);
        due(13, "one may take nothing", x.span(FREE, 0, true, 0), NONE);
        x.set(3, false);
        dueSpan(x, FREE, 0, false, 3, 4);
        x.start(1, 2);
        x.work(2, 2, 1, 0);
        x.work(2, 1, 2, 0);
        x.missing(0, 1, 0, 2);
        dueSpan(x, FREE, 0, false, 1, 2);
        x.missing(0, 2, 0, 1);
        due(13, "both OUTS may be 0", x.span(FREE, 1, false, 0), NONE);
    }

    private static void sides() {
        EdgeBench x = four();
        due(14, "FREE", x.sides(FREE), 2);
        due(14, "LEAST", x.sides(LEAST), 5);
        due(14, "EVEN", x.sides(EVEN), 5);
        due(14, "WHOLE", x.sides(WHOLE), NONE);
        due(14, "view -1", x.sides(-1), NONE);
        due(14, "view 4", x.sides(4), NONE);
        x.set(1, false);
        due(14, "EVEN without 1", x.sides(EVEN), 4);
        x.set(0, false);
        x.set(2, false);
        due(14, "one alone", x.sides(LEAST), 4);
        x.set(3, false);
        for (int view = FREE; view <= WHOLE; view++) {
            due(14, "none THERE", x.sides(view), NONE);
        }
        due(15, "none THERE", x.side(FREE, 0, 0), NONE);
        due(14, "two INS", three().sides(FREE), 5);
    }

    private static void side() {
        EdgeBench x = four();
        dueRow(15, x, FREE, 0, 4, 3, 0);
        dueRow(15, x, FREE, 1, 1, 0, 0);
        dueRow(15, x, LEAST, 0, 4, 3, 0);
        dueRow(15, x, LEAST, 1, 2, 3, -6);
        dueRow(15, x, LEAST, 2, 1, 0, 0);
        dueRow(15, x, LEAST, 3, 0, 1, -6);
        dueRow(15, x, LEAST, 4, 0, 0, -1);
        dueRow(15, x, EVEN, 0, 3, 1, 5);
        dueRow(15, x, EVEN, 1, 2, 3, -6);
        dueRow(15, x, EVEN, 2, 1, 0, 2);
        dueRow(15, x, EVEN, 3, 0, 1, -6);
        dueRow(15, x, EVEN, 4, 0, 0, -1);
        due(15, "side 5", x.side(EVEN, 5, 0), NONE);
        due(15, "side -1", x.side(EVEN, -1, 0), NONE);
        due(15, "number -1", x.side(FREE, 0, -1), NONE);
        due(15, "WHOLE", x.side(WHOLE, 0, 0), NONE);
        due(15, "view -1", x.side(-1, 0, 0), NONE);
        due(15, "wild", x.side(FREE, Integer.MAX_VALUE, Integer.MAX_VALUE), NONE);
        dueRow(15, three(), FREE, 0, 1, 1, 6, 0);
        dueRow(15, three(), FREE, 1, 1, 0, 2, 0);
        dueRow(15, three(), FREE, 4, 0, 1, 0, 0);
    }

    private static void suits() {
        EdgeBench x = four();
        int[][] due = {{1, 0, 1, 0, 0}, {1, 1, 0, 0, 0}, {0, 1, 0, 0, 0}, {1, 0, 0, 0, 0}};
        for (int work = 0; work < 4; work++) {
            for (int i = 0; i < 5; i++) {
                due(16, "suits(2, " + work + ", " + i + ")", x.suits(EVEN, work, i), due[work][i]);
            }
        }
        due(16, "FREE", x.suits(FREE, 0, 0), 1);
        due(16, "FREE, INS alone", x.suits(FREE, 0, 1), 0);
        due(16, "side 5", x.suits(EVEN, 0, 5), NONE);
        due(16, "side -1", x.suits(EVEN, 0, -1), NONE);
        due(16, "WHOLE", x.suits(WHOLE, 0, 0), NONE);
        due(16, "view -1", x.suits(-1, 0, 0), NONE);
        due(16, "work 4", x.suits(EVEN, 4, 0), NONE);
        due(16, "work -1", x.suits(EVEN, -1, 0), NONE);
        x.set(0, false);
        due(16, "dropped", x.suits(EVEN, 0, 0), NONE);
    }

    private static void count() {
        EdgeBench x = three();
        x.missing(0, 0, 1, 2);
        x.missing(0, 2, 1, 2);
        x.missing(2, 1, 0, 30);
        x.set(2, false);
        due(17, "INS", x.count(0), 2);
        due(17, "OUTS", x.count(1), 1);
        due(17, "WORKS", x.count(2), 3);
        due(17, "THERE", x.count(3), 2);
        due(17, "MISSING", x.count(4), 2);
        due(17, "5", x.count(5), NONE);
        due(17, "-1", x.count(-1), NONE);
        due(17, "wild", x.count(Integer.MIN_VALUE), NONE);
    }
}
