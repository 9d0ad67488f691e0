import java.util.Random;

/**
 * Runs of calls from fixed seeds on an object and on the oracle: all promises, told numbers of all kinds. An argument
 * asks for another number of seeds.
 */
public final class OracleTest {
    private static final int MOST_SHOWN = 20;
    private static int wrong;

    private EdgeBench bench = new EdgeBench();
    private Oracle oracle = new Oracle();
    private final Random random;
    private final int most;
    private String run = "";

    private OracleTest(long seed, int most) {
        random = new Random(seed);
        this.most = most;
    }

    public static void main(String[] args) {
        int seeds = args.length == 0 ? 100 : Integer.parseInt(args[0]);
        for (int seed = 0; seed < seeds; seed++) {
            int[] mosts = {2, 4, 9, 30};
            new OracleTest(seed, mosts[seed % 4]).play(2 + seed % 5);
        }
        for (int seed = 0; seed < 8; seed++) {
            new OracleTest(seed, seed < 4 ? 30 : 7).playFull(1 + seed % 2, 1 + seed / 2 % 2);
            new OracleTest(seed, seed < 4 ? 30 : 7).playMissing();
        }
        System.out.println(wrong == 0 ? "all answers are as due" : wrong + " answers are not as due");
        if (wrong != 0) {
            System.exit(1);
        }
    }

    private void play(int works) {
        checkAll(false);
        for (int turn = 0; turn < 2; turn++) {
            begin(1 + random.nextInt(2), 1 + random.nextInt(2));
            for (int i = 0; i < works; i++) {
                add();
            }
            checkAll(true);
            for (int i = 0; i < 3; i++) {
                change(works);
                checkAll(i == 2);
            }
        }
    }

    /** All works that a bench has room for, and one more. */
    private void playFull(int ins, int outs) {
        begin(ins, outs);
        for (int i = 0; i < 13; i++) {
            add();
        }
        checkAll(false);
    }

    /** Up to more MISSING numbers than SPAN allows. */
    private void playMissing() {
        begin(2, 2);
        for (int i = 0; i < 3; i++) {
            add();
        }
        for (int i = 0; i < 7; i++) {
            int work = i % 3;
            int thing = i / 3 + random.nextInt(2);
            int low = 1 + random.nextInt(most - 2);
            due("missing(" + work + ", " + thing + ", " + low + ", " + (low + 1) + ")",
                bench.missing(work, thing, low, low + 1), oracle.missing(work, thing, low, low + 1));
            checkAll(i > 2);
        }
        due("set(0, false)", bench.set(0, false), oracle.set(0, false));
        checkAll(true);
    }

    private void begin(int ins, int outs) {
        due("start(" + ins + ", " + outs + ")", bench.start(ins, outs), oracle.start(ins, outs));
    }

    private void add() {
        int a = random.nextInt(most + 1);
        int b = random.nextInt(most + 1);
        int c = random.nextInt(most + 1);
        int d = random.nextInt(most + 1);
        due("work(" + a + ", " + b + ", " + c + ", " + d + ")", bench.work(a, b, c, d), oracle.work(a, b, c, d));
    }

    private void change(int works) {
        int work = random.nextInt(works + 1);
        if (random.nextInt(3) == 0) {
            boolean there = random.nextBoolean();
            due("set(" + work + ", " + there + ")", bench.set(work, there), oracle.set(work, there));
            return;
        }
        int thing = random.nextInt(5);
        int low = random.nextInt(most + 1) * random.nextInt(2);
        int high = low + random.nextInt(4) - (random.nextInt(10) == 0 ? 1 : 0);
        due("missing(" + work + ", " + thing + ", " + low + ", " + high + ")",
            bench.missing(work, thing, low, high), oracle.missing(work, thing, low, high));
    }

    private void checkAll(boolean withSpans) {
        for (int what = -1; what <= 5; what++) {
            due("count(" + what + ")", bench.count(what), oracle.count(what));
        }
        for (int view = -1; view <= 4; view++) {
            checkSides(view);
            for (int work = -1; work <= oracle.count(2); work++) {
                checkWork(view, work);
                if (withSpans) {
                    checkSpans(view, work);
                }
            }
        }
        for (int work = -1; work <= oracle.count(2); work++) {
            due("size(" + work + ")", bench.size(work), oracle.size(work));
            for (int place = 0; place < 24; place++) {
                int thing = place / 4 - 1;
                int what = place % 4 - 1;
                due("at(" + work + ", " + thing + ", " + what + ")",
                    bench.at(work, thing, what), oracle.at(work, thing, what));
            }
        }
    }

    private void checkSides(int view) {
        int sides = oracle.sides(view);
        due("sides(" + view + ")", bench.sides(view), sides);
        for (int i = -1; i <= sides; i++) {
            for (int k = -1; k <= 5; k++) {
                due("side(" + view + ", " + i + ", " + k + ")", bench.side(view, i, k), oracle.side(view, i, k));
            }
        }
    }

    private void checkWork(int view, int work) {
        String both = "(" + view + ", " + work;
        for (int what = -1; what <= 2; what++) {
            due("share" + both + ", " + what + ")", bench.share(view, work, what), oracle.share(view, work, what));
            due("above" + both + ", " + what + ")", bench.above(view, work, what), oracle.above(view, work, what));
            int first = random.nextInt(34) - 2;
            int second = random.nextInt(34) - 2;
            due("cost" + both + ", " + first + ", " + second + ", " + what + ")",
                bench.cost(view, work, first, second, what), oracle.cost(view, work, first, second, what));
        }
        due("cost" + both + ", 0, 1, 0)", bench.cost(view, work, 0, 1, 0), oracle.cost(view, work, 0, 1, 0));
        due("strong" + both + ")", bench.strong(view, work), oracle.strong(view, work));
        for (int other = -1; other <= oracle.count(2); other++) {
            due("peer" + both + ", " + other + ")", bench.peer(view, work, other), oracle.peer(view, work, other));
        }
        for (int i = -1; i <= oracle.sides(view); i++) {
            due("suits" + both + ", " + i + ")", bench.suits(view, work, i), oracle.suits(view, work, i));
        }
    }

    private void checkSpans(int view, int work) {
        for (int what = -1; what <= 2; what++) {
            String rest = "(" + view + ", " + work + ", ";
            due("span" + rest + "false, " + what + ")",
                bench.span(view, work, false, what), oracle.span(view, work, false, what));
            due("span" + rest + "true, " + what + ")",
                bench.span(view, work, true, what), oracle.span(view, work, true, what));
        }
    }

    private void due(String call, boolean got, boolean want) {
        due(call, got ? 1 : 0, want ? 1 : 0);
    }

    private void due(String call, long got, long want) {
        if (call.startsWith("start") || call.startsWith("work") || call.startsWith("set") || call.startsWith("miss")) {
            run += call + "; ";
        }
        if (got != want) {
            wrong++;
            if (wrong <= MOST_SHOWN) {
                System.out.println(run + call + " answered " + got + ", due is " + want);
            }
        }
    }
}
