import java.util.function.Supplier;

/**
 * Each bound that the document sets to an argument: the last ones within and the first ones without, on both sides, and
 * some far away; for all numbers of INS and OUTS, for one work, for some, and for as many as there may be.
 */
public final class BoundsTest extends Checks {
    private static final long FALSE = 0;

    private interface Ask {
        long of(EdgeBench x, int argument);
    }

    public static void main(String[] args) {
        newObject();
        start();
        for (int ins = 1; ins <= 2; ins++) {
            for (int outs = 1; outs <= 2; outs++) {
                workNumbers(ins, outs);
                workAbsentThings(ins, outs);
                workWithoutInOrOut(ins, outs);
                workMost(ins, outs);
                for (int works : new int[] {1, 3, MOST_WORKS}) {
                    set(ins, outs, works);
                    missing(ins, outs, works);
                    at(ins, outs, works);
                    held(ins, outs, works);
                    peerAndAbove(ins, outs, works);
                    cost(ins, outs, works);
                    sides(ins, outs, works);
                }
                noWorks(ins, outs);
            }
        }
        count();
        finish();
    }

    /** Asks a new object for each argument whether it is refused: so it is just outside of low .. high. */
    private static void bounds(
        int promise, String call, Supplier<EdgeBench> made, int low, int high, long refused, Ask ask) {
        int[] near = {low - 1, low, high, high + 1};
        for (int argument : near) {
            boolean isRefused = ask.of(made.get(), argument) == refused;
            due(promise, call + " being " + argument + ", refused", isRefused, argument < low || argument > high);
        }
        for (int argument : FAR) {
            due(promise, call + " being " + argument, ask.of(made.get(), argument), refused);
        }
    }

    private static long one(boolean answer) {
        return answer ? 1 : 0;
    }

    /** All numbers are above 0, and work 0 gives least: by all views the others do what it does. */
    private static EdgeBench some(int ins, int outs, int works) {
        EdgeBench x = bench(ins, outs);
        for (int work = 0; work < works; work++) {
            int[] row = new int[4];
            for (int thing = 0; thing < ins + outs; thing++) {
                row[thing] = thing < ins ? 5 + work * (thing + 3) % 7 : 2 + work * (thing + 1) % 13;
            }
            due(3, "a work's number", add(x, row), work);
        }
        return x;
    }

    /** "One IN, one OUT, no WORKS." */
    private static void newObject() {
        due(1, "INS", new EdgeBench().count(0), 1);
        due(1, "OUTS", new EdgeBench().count(1), 1);
        due(1, "WORKS", new EdgeBench().count(2), 0);
        due(1, "WORKS THERE", new EdgeBench().count(3), 0);
        due(1, "MISSING", new EdgeBench().count(4), 0);
        EdgeBench used = some(2, 2, MOST_WORKS);
        used.set(0, false);
        EdgeBench x = new EdgeBench();
        due(1, "WORKS of another object", x.count(2), 0);
        due(1, "the first work", x.work(1, 1, -1, 31), 0);
        due(1, "it is THERE", x.count(3), 1);
        due(1, "its IN", x.at(0, 0, 0), 1);
        due(1, "its OUT", x.at(0, 1, 0), 1);
        due(1, "no third THING", x.at(0, 2, 0), NONE);
        due(1, "WORKS of the first object", used.count(2), MOST_WORKS);
    }

    /** "So many INS and OUTS (1, 2 each), no WORKS. False: others." */
    private static void start() {
        for (int other = 1; other <= 2; other++) {
            int good = other;
            bounds(2, "INS", () -> some(1, 2, 3), 1, 2, FALSE, (x, ins) -> one(x.start(ins, good)));
            bounds(2, "OUTS", () -> some(2, 1, 3), 1, 2, FALSE, (x, outs) -> one(x.start(good, outs)));
        }
        for (int bad : new int[] {0, 3}) {
            bounds(2, "INS beside wrong OUTS", EdgeBench::new, 1, 0, FALSE, (x, ins) -> one(x.start(ins, bad)));
            bounds(2, "OUTS beside wrong INS", EdgeBench::new, 1, 0, FALSE, (x, outs) -> one(x.start(bad, outs)));
        }
        for (int ins = 1; ins <= 2; ins++) {
            for (int outs = 1; outs <= 2; outs++) {
                EdgeBench x = some(2, 2, MOST_WORKS);
                x.missing(1, 0, 0, 30);
                x.set(0, false);
                due(2, "start", x.start(ins, outs), true);
                int[] counts = {ins, outs, 0, 0, 0};
                for (int what = 0; what < counts.length; what++) {
                    due(2, "count(" + what + ") after start", x.count(what), counts[what]);
                }
                for (int work = 0; work < MOST_WORKS; work++) {
                    due(2, "a work after start", x.work(1, 1, 1, 1), work);
                    due(2, "it is THERE", x.set(work, true), false);
                    due(2, "it is as told", x.at(work, 0, 1), 1);
                }
                due(2, "room for twelve alone", x.work(1, 1, 1, 1), NONE);
            }
        }
    }

    /** "Of each THING a work has a number 0 .. 30"; of one IN alone, or one OUT alone, it has to be above 0. */
    private static void workNumbers(int ins, int outs) {
        for (int thing = 0; thing < ins + outs; thing++) {
            int place = thing;
            int least = (thing < ins ? ins : outs) == 1 ? 1 : 0;
            bounds(3, "THING " + thing, () -> bench(ins, outs), least, 30, NONE, (x, number) -> {
                int[] row = {1, 1, 1, 1};
                row[place] = number;
                int answer = add(x, row);
                due(3, "WORKS after it", x.count(2), answer + 1);
                due(3, "its number", x.at(0, place, 0), answer == NONE ? NONE : number);
                return answer;
            });
        }
        due(3, "all at the upper bound", bench(ins, outs).work(30, 30, 30, 30), 0);
    }

    /** "Those that there are not don't matter": neither out of bounds, nor as an IN or OUT above 0. */
    private static void workAbsentThings(int ins, int outs) {
        for (int absent = ins + outs; absent < 4; absent++) {
            for (int number : FAR) {
                int[] row = {1, 1, 1, 1};
                row[absent] = number;
                due(3, "without THING " + absent + " being " + number, add(bench(ins, outs), row), 0);
            }
            int[] noOut = {1, 1, 1, 1};
            for (int out = ins; out < ins + outs; out++) {
                noOut[out] = 0;
            }
            due(3, "no OUT but one that there is not", add(bench(ins, outs), noOut), NONE);
        }
    }

    /** "Of some IN and of some OUT above 0": 1 of one of them is enough. */
    private static void workWithoutInOrOut(int ins, int outs) {
        for (int set = 0; set < 1 << ins + outs; set++) {
            int[] numbers = new int[4];
            for (int thing = 0; thing < ins + outs; thing++) {
                numbers[thing] = set >> thing & 1;
            }
            boolean hasIn = (set & (1 << ins) - 1) != 0;
            boolean hasOut = set >> ins != 0;
            EdgeBench x = bench(ins, outs);
            due(3, "numbers 0 or 1, set " + set, add(x, numbers), hasIn && hasOut ? 0 : NONE);
            due(3, "WORKS then", x.count(2), hasIn && hasOut ? 1 : 0);
            due(3, "the next one's number", x.work(1, 1, 1, 1), hasIn && hasOut ? 1 : 0);
        }
    }

    /** "There are 12": dropped ones are among them. */
    private static void workMost(int ins, int outs) {
        EdgeBench x = some(ins, outs, MOST_WORKS - 1);
        due(3, "no work 31", x.work(31, 1, 1, 1), NONE);
        due(3, "the twelfth", x.work(1, 1, 1, 1), MOST_WORKS - 1);
        due(3, "the thirteenth", x.work(1, 1, 1, 1), NONE);
        for (int work = 0; work < MOST_WORKS; work++) {
            x.set(work, false);
            due(3, "the thirteenth when some are dropped", x.work(1, 1, 1, 1), NONE);
        }
        due(3, "none THERE", x.count(3), 0);
        due(3, "twelve WORKS", x.count(2), MOST_WORKS);
    }

    /** "False: there is none such, or it is so." */
    private static void set(int ins, int outs, int works) {
        bounds(4, "a work dropped", () -> some(ins, outs, works), 0, works - 1, FALSE,
            (x, work) -> one(x.set(work, false)));
        bounds(4, "a work taken back", () -> noneThere(ins, outs, works), 0, works - 1, FALSE,
            (x, work) -> one(x.set(work, true)));
        bounds(4, "a work that is THERE", () -> some(ins, outs, works), 1, 0, FALSE,
            (x, work) -> one(x.set(work, true)));
        bounds(4, "a work that is not", () -> noneThere(ins, outs, works), 1, 0, FALSE,
            (x, work) -> one(x.set(work, false)));
    }

    private static EdgeBench noneThere(int ins, int outs, int works) {
        EdgeBench x = some(ins, outs, works);
        for (int work = 0; work < works; work++) {
            due(4, "set(" + work + ", false)", x.set(work, false), true);
            due(4, "THERE then", x.count(3), works - 1 - work);
        }
        return x;
    }

    /** "False: no such WORK, THING; out of bounds; the upper end below the lower one." */
    private static void missing(int ins, int outs, int works) {
        Supplier<EdgeBench> made = () -> some(ins, outs, works);
        int last = ins + outs - 1;
        bounds(5, "missing's work", made, 0, works - 1, FALSE, (x, work) -> one(x.missing(work, last, 3, 4)));
        bounds(5, "missing's dropped work", () -> noneThere(ins, outs, works), 0, works - 1, FALSE,
            (x, work) -> one(x.missing(work, last, 3, 4)));
        bounds(5, "missing's thing", made, 0, last, FALSE, (x, thing) -> one(x.missing(works - 1, thing, 3, 4)));
        for (int thing = 0; thing <= last; thing++) {
            int place = thing;
            bounds(5, "missing's lower end", made, 0, 9, FALSE, (x, low) -> missed(x, place, low, 9));
            bounds(5, "missing's upper end", made, 9, 30, FALSE, (x, high) -> missed(x, place, 9, high));
            bounds(5, "missing's alike ends", made, 0, 30, FALSE, (x, end) -> missed(x, place, end, end));
            bounds(5, "missing's upper end over 0", made, 0, 30, FALSE, (x, high) -> missed(x, place, 0, high));
            bounds(5, "missing's lower end under 30", made, 0, 30, FALSE, (x, low) -> missed(x, place, low, 30));
        }
    }

    private static long missed(EdgeBench x, int thing, int low, int high) {
        int before = x.at(0, thing, 0);
        boolean answer = x.missing(0, thing, low, high);
        due(6, "the lower end", x.at(0, thing, 0), answer ? low : before);
        due(6, "the upper end", x.at(0, thing, 1), answer ? high : before);
        due(17, "MISSING", x.count(4), answer && low < high ? 1 : 0);
        return one(answer);
    }

    /** "NONE without, or for others." */
    private static void at(int ins, int outs, int works) {
        Supplier<EdgeBench> made = () -> some(ins, outs, works);
        for (int what = 0; what <= 1; what++) {
            int end = what;
            bounds(6, "at's work", made, 0, works - 1, NONE, (x, work) -> x.at(work, 0, end));
            bounds(6, "at's thing", made, 0, ins + outs - 1, NONE, (x, thing) -> x.at(0, thing, end));
        }
        bounds(6, "at's what", made, 0, 1, NONE, (x, what) -> x.at(works - 1, ins + outs - 1, what));
    }

    /** "NONE: no such one, VIEW, what" of share(), strong(), size() and span(). */
    private static void held(int ins, int outs, int works) {
        Supplier<EdgeBench> made = () -> some(ins, outs, works);
        int last = works - 1;
        bounds(7, "share's view", made, 0, 3, NONE, (x, view) -> x.share(view, last, 0));
        bounds(8, "strong's view", made, 0, 3, NONE, (x, view) -> x.strong(view, last));
        bounds(10, "size's work", made, 0, last, 2, (x, work) -> x.size(work));
        bounds(13, "span's view", made, 0, 3, NONE, (x, view) -> x.span(view, last, true, 0));
        for (int each = FREE; each <= WHOLE; each++) {
            int view = each;
            bounds(7, "share's work", made, 0, last, NONE, (x, work) -> x.share(view, work, 1));
            bounds(7, "share's what", made, 0, 1, NONE, (x, what) -> x.share(view, 0, what));
            bounds(8, "strong's work", made, 0, last, NONE, (x, work) -> x.strong(view, work));
            bounds(13, "span's work", made, 0, last, NONE, (x, work) -> x.span(view, work, false, 1));
            bounds(13, "span's what", made, 0, 1, NONE, (x, what) -> x.span(view, 0, true, what));
            Supplier<EdgeBench> none = () -> noneThere(ins, outs, works);
            bounds(7, "share's dropped work", none, 1, 0, NONE, (x, work) -> x.share(view, work, 0));
            bounds(8, "strong's dropped work", none, 1, 0, NONE, (x, work) -> x.strong(view, work));
            bounds(10, "size's dropped work", none, 1, 0, 2, (x, work) -> x.size(work));
            bounds(13, "span's dropped work", none, 1, 0, NONE, (x, work) -> x.span(view, work, true, 0));
        }
    }

    /** "NONE likewise, or that is not THERE"; "NONE likewise as share(), or there is none". */
    private static void peerAndAbove(int ins, int outs, int works) {
        Supplier<EdgeBench> made = () -> some(ins, outs, works);
        Supplier<EdgeBench> none = () -> noneThere(ins, outs, works);
        int last = works - 1;
        bounds(9, "peer's view", made, 0, 3, NONE, (x, view) -> x.peer(view, last, 0));
        // Without another work there is no ABOVE.
        if (works > 1) {
            bounds(11, "above's view", made, 0, 3, NONE, (x, view) -> x.above(view, 0, 0));
            bounds(11, "above's work", made, 0, last, NONE, (x, work) -> x.above(FREE, work, 1));
            bounds(11, "above's what", made, 0, 1, NONE, (x, what) -> x.above(WHOLE, 0, what));
        }
        for (int each = FREE; each <= WHOLE; each++) {
            int view = each;
            bounds(9, "peer's work", made, 0, last, NONE, (x, work) -> x.peer(view, work, 0));
            bounds(9, "peer's other", made, 0, last, NONE, (x, other) -> x.peer(view, 0, other));
            bounds(9, "peer's dropped work", none, 1, 0, NONE, (x, work) -> x.peer(view, work, work));
            bounds(9, "peer's dropped other", () -> firstThere(ins, outs, works), 0, 0, NONE,
                (x, other) -> x.peer(view, 0, other));
            bounds(11, "above, no other THERE", () -> firstThere(ins, outs, works), 1, 0, NONE,
                (x, work) -> x.above(view, work, 0));
        }
    }

    private static EdgeBench firstThere(int ins, int outs, int works) {
        EdgeBench x = noneThere(ins, outs, works);
        due(4, "set(0, true)", x.set(0, true), true);
        return x;
    }

    /** "With a price of each IN (0 .. 30, not all 0)"; "the second one is not asked where there is one alone". */
    private static void cost(int ins, int outs, int works) {
        Supplier<EdgeBench> made = () -> some(ins, outs, works);
        int last = works - 1;
        bounds(12, "cost's view", made, 0, 3, NONE, (x, view) -> x.cost(view, last, 1, 1, 0));
        bounds(12, "cost's what", made, 0, 1, NONE, (x, what) -> x.cost(EVEN, last, 1, 1, what));
        for (int each = FREE; each <= WHOLE; each++) {
            int view = each;
            bounds(12, "cost's work", made, 0, last, NONE, (x, work) -> x.cost(view, work, 30, 30, 1));
            bounds(12, "the first price alone", made, 1, 30, NONE, (x, price) -> x.cost(view, last, price, 0, 1));
            bounds(12, "the first price", made, ins == 1 ? 1 : 0, 30, NONE,
                (x, price) -> x.cost(view, last, price, 1, 1));
            if (ins == 2) {
                bounds(12, "the second price alone", made, 1, 30, NONE, (x, price) -> x.cost(view, 0, 0, price, 1));
                bounds(12, "the second price", made, 0, 30, NONE, (x, price) -> x.cost(view, 0, 1, price, 1));
            }
            for (int price : FAR) {
                long want = ins == 2 ? NONE : made.get().cost(view, 0, 7, 0, 1);
                due(12, "the second price being " + price, made.get().cost(view, 0, 7, price, 1), want);
            }
        }
    }

    /** "NONE: no such VIEW (0 .. 2)", and no such SIDE, number or work. */
    private static void sides(int ins, int outs, int works) {
        Supplier<EdgeBench> made = () -> some(ins, outs, works);
        int last = works - 1;
        bounds(14, "sides' view", made, 0, 2, NONE, (x, view) -> x.sides(view));
        bounds(15, "side's view", made, 0, 2, NONE, (x, view) -> x.side(view, 0, 0));
        bounds(16, "suits' view", made, 0, 2, NONE, (x, view) -> x.suits(view, last, 0));
        for (int each = FREE; each <= EVEN; each++) {
            int view = each;
            int end = made.get().sides(view) - 1;
            bounds(15, "side's i", made, 0, end, NONE, (x, i) -> x.side(view, i, 0));
            // SIDE 0 has no LAST that is -1.
            bounds(15, "side's k", made, 0, ins + outs, NONE, (x, k) -> x.side(view, 0, k));
            bounds(16, "suits' i", made, 0, end, NONE, (x, i) -> x.suits(view, last, i));
            bounds(16, "suits' work", made, 0, last, NONE, (x, work) -> x.suits(view, work, end));
            Supplier<EdgeBench> none = () -> noneThere(ins, outs, works);
            bounds(14, "sides, none THERE", none, 1, 0, NONE, (x, any) -> x.sides(view));
            bounds(15, "side, none THERE", none, 1, 0, NONE, (x, i) -> x.side(view, i, 0));
            bounds(16, "suits, none THERE", none, 1, 0, NONE, (x, work) -> x.suits(view, work, 0));
            due(14, "sides, one THERE", firstThere(ins, outs, works).sides(view) > 0, true);
        }
    }

    /** Where there are no works every argument names none. */
    private static void noWorks(int ins, int outs) {
        Supplier<EdgeBench> made = () -> bench(ins, outs);
        bounds(4, "set", made, 1, 0, FALSE, (x, work) -> one(x.set(work, false)));
        bounds(4, "set", made, 1, 0, FALSE, (x, work) -> one(x.set(work, true)));
        bounds(5, "missing", made, 1, 0, FALSE, (x, work) -> one(x.missing(work, 0, 1, 2)));
        bounds(6, "at", made, 1, 0, NONE, (x, work) -> x.at(work, 0, 0));
        bounds(10, "size", made, 1, 0, 2, (x, work) -> x.size(work));
        for (int each = FREE; each <= WHOLE; each++) {
            int view = each;
            bounds(7, "share", made, 1, 0, NONE, (x, work) -> x.share(view, work, 0));
            bounds(8, "strong", made, 1, 0, NONE, (x, work) -> x.strong(view, work));
            bounds(9, "peer", made, 1, 0, NONE, (x, work) -> x.peer(view, work, 0));
            bounds(11, "above", made, 1, 0, NONE, (x, work) -> x.above(view, work, 0));
            bounds(12, "cost", made, 1, 0, NONE, (x, work) -> x.cost(view, work, 1, 1, 0));
            bounds(13, "span", made, 1, 0, NONE, (x, work) -> x.span(view, work, true, 0));
            bounds(15, "side", made, 1, 0, NONE, (x, i) -> x.side(view, i, 0));
            bounds(16, "suits", made, 1, 0, NONE, (x, i) -> x.suits(view, 0, i));
            due(14, "sides", made.get().sides(view), NONE);
        }
    }

    /** "NONE for others." */
    private static void count() {
        bounds(17, "count's what", EdgeBench::new, 0, 4, NONE, (x, what) -> x.count(what));
        bounds(17, "count's what", () -> some(2, 2, MOST_WORKS), 0, 4, NONE, (x, what) -> x.count(what));
    }
}
