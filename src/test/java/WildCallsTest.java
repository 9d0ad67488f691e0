import java.util.Random;

/** Calls in any order with any arguments, of which many are refused, on an object and on the oracle side by side. */
public final class WildCallsTest {
    private static final int CALLS = 512;
    private static final int[] WILD = {
        Integer.MIN_VALUE, Integer.MIN_VALUE + 1, -1000000, -31, -2, 31, 32, 99, 1 << 16, 1 << 28, 1 << 30,
        Integer.MAX_VALUE - 1, Integer.MAX_VALUE
    };

    private final EdgeBench bench = new EdgeBench();
    private final Oracle oracle = new Oracle();
    private final Random random;

    private WildCallsTest(long seed) {
        random = new Random(seed);
    }

    public static void main(String[] args) {
        int wrong = 0;
        for (int seed = 0; seed < 60; seed++) {
            wrong += new WildCallsTest(seed).play(seed);
        }
        System.out.println(wrong == 0 ? "all answers are as due" : wrong + " answers are not as due");
        if (wrong != 0) {
            System.exit(1);
        }
    }

    private int play(int seed) {
        for (int call = 0; call < CALLS; call++) {
            int kind = random.nextInt(call < 30 ? 4 : 17);
            int[] a = {wild(6), wild(13), wild(5), wild(31), wild(31)};
            if (kind == 0 && random.nextInt(call < 30 ? 4 : 20) != 0) {
                kind = 1;
            }
            long got = ask(kind, a);
            long want = askOracle(kind, a);
            if (got != want) {
                System.out.println("seed " + seed + ", call " + call + ", kind " + kind + " of "
                    + java.util.Arrays.toString(a) + " answered " + got + ", due is " + want);
                return 1;
            }
        }
        return 0;
    }

    private int wild(int most) {
        return random.nextInt(12) == 0 ? WILD[random.nextInt(WILD.length)] : random.nextInt(most + 2) - 1;
    }

    private long ask(int kind, int[] a) {
        switch (kind) {
            case 0: return bench.start(a[0], a[2]) ? 1 : 0;
            case 1: return bench.work(a[1], a[3], a[4], a[3]);
            case 2: return bench.missing(a[1], a[2], a[3], end(a)) ? 1 : 0;
            case 3: return bench.set(a[1], a[0] % 2 == 0) ? 1 : 0;
            case 4: return bench.at(a[1], a[2], a[0]);
            case 5: return bench.share(a[0], a[1], a[2]);
            case 6: return bench.strong(a[0], a[1]);
            case 7: return bench.peer(a[0], a[1], a[3]);
            case 8: return bench.size(a[1]);
            case 9: return bench.above(a[0], a[1], a[2]);
            case 10: return bench.cost(a[0], a[1], a[3], a[4], a[2]);
            case 11: return bench.span(a[0], a[1], a[3] % 2 == 0, a[2]);
            case 12: return bench.sides(a[0]);
            case 13: return bench.side(a[0], a[3], a[2]);
            case 14: return bench.suits(a[0], a[1], a[3]);
            default: return bench.count(a[0]);
        }
    }

    private long askOracle(int kind, int[] a) {
        switch (kind) {
            case 0: return oracle.start(a[0], a[2]) ? 1 : 0;
            case 1: return oracle.work(a[1], a[3], a[4], a[3]);
            case 2: return oracle.missing(a[1], a[2], a[3], end(a)) ? 1 : 0;
            case 3: return oracle.set(a[1], a[0] % 2 == 0) ? 1 : 0;
            case 4: return oracle.at(a[1], a[2], a[0]);
            case 5: return oracle.share(a[0], a[1], a[2]);
            case 6: return oracle.strong(a[0], a[1]);
            case 7: return oracle.peer(a[0], a[1], a[3]);
            case 8: return oracle.size(a[1]);
            case 9: return oracle.above(a[0], a[1], a[2]);
            case 10: return oracle.cost(a[0], a[1], a[3], a[4], a[2]);
            case 11: return oracle.span(a[0], a[1], a[3] % 2 == 0, a[2]);
            case 12: return oracle.sides(a[0]);
            case 13: return oracle.side(a[0], a[3], a[2]);
            case 14: return oracle.suits(a[0], a[1], a[3]);
            default: return oracle.count(a[0]);
        }
    }

    /** Near the lower end, since the oracle tries all numbers between the ends. */
    private static int end(int[] a) {
        return a[4] > 31 || a[4] < 0 ? a[4] : a[3] + a[4] % 4 - 1;
    }
}
