/**
 * A bench for works that make things of things, each held against all by the weights that suit it best.
 *
 * Everything is read off the SIDES. SHARE is a small linear program; its dual runs over the cone of WEIGHTS, so the
 * best that a SIDE tells of a work is its SHARE, and the SIDES that tell it span all that is best for the work. What
 * is 0 on all of these tells PEERS, what is above 0 on one of them tells STRONG (strict complementarity).
 */
public final class EdgeBench {
    public static final int NONE = -1;

    private static final int FREE = 0;
    private static final int LEAST = 1;
    private static final int EVEN = 2;
    private static final int WHOLE = 3;

    private static final int MOST_INS = 2;
    private static final int MOST_OUTS = 2;
    private static final int MOST_THINGS = MOST_INS + MOST_OUTS;
    private static final int MOST_WORKS = 12;
    private static final int MOST_NUMBER = 30;
    private static final int MOST_MISSING = 4;

    private static final int ALIKE = 0;
    private static final int TOO_SMALL = 1;
    private static final int TOO_GREAT = -1;
    private static final int NO_SIZE = 2;

    private int ins;
    private int outs;
    private int works;
    private final int[] low;
    private final int[] high;
    private final boolean[] there;
    private final Rows told;
    private final Rows asked;
    private final Cone[] toldCones;
    private final Cone askedCone;

    public EdgeBench() {
        low = new int[MOST_WORKS * MOST_THINGS];
        high = new int[MOST_WORKS * MOST_THINGS];
        there = new boolean[MOST_WORKS];
        told = new Rows();
        asked = new Rows();
        toldCones = new Cone[WHOLE];
        for (int view = 0; view < WHOLE; view++) {
            toldCones[view] = new Cone();
        }
        askedCone = new Cone();
        clear(1, 1);
    }

    public boolean start(int ins, int outs) {
        if (ins < 1 || ins > MOST_INS || outs < 1 || outs > MOST_OUTS) {
            return false;
        }
        clear(ins, outs);
        return true;
    }

    public int work(int a, int b, int c, int d) {
        if (works >= MOST_WORKS) {
            return NONE;
        }
        int inSum = 0;
        int outSum = 0;
        for (int thing = 0; thing < ins + outs; thing++) {
            int number = pick(thing, a, b, c, d);
            if (!isNumber(number)) {
                return NONE;
            }
            if (thing < ins) {
                inSum += number;
            } else {
                outSum += number;
            }
        }
        if (inSum == 0 || outSum == 0) {
            return NONE;
        }
        for (int thing = 0; thing < ins + outs; thing++) {
            int place = works * MOST_THINGS + thing;
            low[place] = pick(thing, a, b, c, d);
            high[place] = low[place];
        }
        there[works] = true;
        works++;
        retell();
        return works - 1;
    }

    public boolean set(int work, boolean there) {
        if (!isWork(work) || this.there[work] == there) {
            return false;
        }
        this.there[work] = there;
        retell();
        return true;
    }

    public boolean missing(int work, int thing, int low, int high) {
        if (!isWork(work) || !isThing(thing) || !isNumber(low) || !isNumber(high) || high < low) {
            return false;
        }
        this.low[work * MOST_THINGS + thing] = low;
        this.high[work * MOST_THINGS + thing] = high;
        retell();
        return true;
    }

    public int at(int work, int thing, int what) {
        if (!isWork(work) || !isThing(thing)) {
            return NONE;
        }
        if (what == 0) {
            return low[work * MOST_THINGS + thing];
        }
        return what == 1 ? high[work * MOST_THINGS + thing] : NONE;
    }

    public long share(int view, int work, int what) {
        if (!isView(view) || !isHeld(work)) {
            return NONE;
        }
        return partOf(toldShare(view, work), what);
    }

    public int strong(int view, int work) {
        if (!isView(view) || !isHeld(work)) {
            return NONE;
        }
        Fraction share = toldShare(view, work);
        if (share.top != share.bottom) {
            return 0;
        }
        boolean isStrong = view == WHOLE
            ? told.isMatchedByItsLikeAlone(work)
            : coneOf(view).weighsAllThings(told, work, share);
        return isStrong ? 1 : 0;
    }

    public int peer(int view, int work, int other) {
        if (!isView(view) || !isHeld(work) || !isThere(other)) {
            return NONE;
        }
        Fraction share = toldShare(view, work);
        boolean isPeer = view == WHOLE
            ? told.fits(other, work, share.top, share.bottom)
            : coneOf(view).isTightWhereBest(told, work, share, other);
        return isPeer ? 1 : 0;
    }

    public int size(int work) {
        if (!isHeld(work)) {
            return NO_SIZE;
        }
        Fraction free = toldShare(FREE, work);
        if (free.isLike(toldShare(EVEN, work))) {
            return ALIKE;
        }
        return free.isLike(toldShare(LEAST, work)) ? TOO_SMALL : TOO_GREAT;
    }

    public long above(int view, int work, int what) {
        if (!isView(view) || !isHeld(work)) {
            return NONE;
        }
        asked.copy(told);
        asked.part[work] = false;
        return partOf(askedShare(view, work), what);
    }

    public long cost(int view, int work, int first, int second, int what) {
        if (!isView(view) || !isHeld(work)) {
            return NONE;
        }
        int secondPrice = ins == 1 ? 0 : second;
        if (!isNumber(first) || !isNumber(secondPrice)) {
            return NONE;
        }
        asked.copy(told);
        asked.priceIns(first, secondPrice);
        if (!asked.takes(work)) {
            return NONE;
        }
        return partOf(askedShare(view, work), what);
    }

    public long span(int view, int work, boolean greatest, int what) {
        if (!isView(view) || !isHeld(work) || missingThere() > MOST_MISSING || someMayBeBare()) {
            return NONE;
        }
        asked.copy(told);
        for (int other = 0; other < works; other++) {
            // SHARE never falls when the work itself takes less or gives more, nor when others take more or give
            // less: so its ends lie where each MISSING number is at one of its own ends.
            boolean isWell = (other == work) == greatest;
            for (int thing = 0; thing < ins + outs; thing++) {
                int place = other * MOST_THINGS + thing;
                asked.number[place] = (thing < ins) == isWell ? low[place] : high[place];
            }
        }
        return partOf(askedShare(view, work), what);
    }

    public int sides(int view) {
        return hasSides(view) ? coneOf(view).many : NONE;
    }

    public int side(int view, int i, int k) {
        if (!hasSides(view)) {
            return NONE;
        }
        Cone cone = coneOf(view);
        if (i < 0 || i >= cone.many || k < 0 || k > ins + outs) {
            return NONE;
        }
        return (int) cone.ray[i * Cone.WIDTH + k];
    }

    public int suits(int view, int work, int i) {
        if (!hasSides(view) || !isHeld(work)) {
            return NONE;
        }
        Cone cone = coneOf(view);
        if (i < 0 || i >= cone.many) {
            return NONE;
        }
        boolean isSuited = cone.insWeighed(i, told, work) > 0 && cone.isBest(i, told, work, toldShare(view, work));
        return isSuited ? 1 : 0;
    }

    public int count(int what) {
        switch (what) {
            case 0:
                return ins;
            case 1:
                return outs;
            case 2:
                return works;
            case 3:
                return worksThere();
            case 4:
                return missingThere();
            default:
                return NONE;
        }
    }

    private void clear(int insNow, int outsNow) {
        ins = insNow;
        outs = outsNow;
        works = 0;
        for (int work = 0; work < MOST_WORKS; work++) {
            there[work] = false;
        }
        retell();
    }

    /** After each change: what is told of the works where nothing else is said, and no cone is up to date. */
    private void retell() {
        told.ins = ins;
        told.outs = outs;
        for (int work = 0; work < MOST_WORKS; work++) {
            told.part[work] = there[work];
            for (int thing = 0; thing < ins + outs; thing++) {
                int place = work * MOST_THINGS + thing;
                told.number[place] = thing < ins ? low[place] : high[place];
            }
        }
        for (int view = 0; view < WHOLE; view++) {
            toldCones[view].isFresh = false;
        }
    }

    private static int pick(int thing, int a, int b, int c, int d) {
        if (thing < 2) {
            return thing == 0 ? a : b;
        }
        return thing == 2 ? c : d;
    }

    private static boolean isNumber(int number) {
        return number >= 0 && number <= MOST_NUMBER;
    }

    private static boolean isView(int view) {
        return view >= FREE && view <= WHOLE;
    }

    private boolean isWork(int work) {
        return work >= 0 && work < works;
    }

    private boolean isThing(int thing) {
        return thing >= 0 && thing < ins + outs;
    }

    private boolean isThere(int work) {
        return isWork(work) && there[work];
    }

    private boolean isHeld(int work) {
        return isThere(work) && told.takes(work) && told.gives(work);
    }

    private boolean hasSides(int view) {
        return isView(view) && view != WHOLE && worksThere() > 0;
    }

    private int worksThere() {
        int sum = 0;
        for (int work = 0; work < works; work++) {
            if (there[work]) {
                sum++;
            }
        }
        return sum;
    }

    private int missingThere() {
        int sum = 0;
        for (int work = 0; work < works; work++) {
            for (int thing = 0; thing < ins + outs; thing++) {
                int place = work * MOST_THINGS + thing;
                if (there[work] && low[place] < high[place]) {
                    sum++;
                }
            }
        }
        return sum;
    }

    /** Whether some work THERE takes nothing, or gives nothing, where its MISSING numbers are as low as they can be. */
    private boolean someMayBeBare() {
        for (int work = 0; work < works; work++) {
            if (there[work] && (areZero(low, work, 0, ins) || areZero(low, work, ins, ins + outs))) {
                return true;
            }
        }
        return false;
    }

    private static boolean areZero(int[] numbers, int work, int from, int end) {
        for (int thing = from; thing < end; thing++) {
            if (numbers[work * MOST_THINGS + thing] != 0) {
                return false;
            }
        }
        return true;
    }

    private static long partOf(Fraction fraction, int what) {
        if (fraction.isNone()) {
            return NONE;
        }
        if (what == 0) {
            return fraction.top;
        }
        return what == 1 ? fraction.bottom : NONE;
    }

    private Cone coneOf(int view) {
        Cone cone = toldCones[view];
        if (!cone.isFresh) {
            cone.build(told, view);
            cone.isFresh = true;
        }
        return cone;
    }

    private Fraction toldShare(int view, int work) {
        return view == WHOLE ? told.shareByOne(work) : coneOf(view).shareOf(told, work);
    }

    private Fraction askedShare(int view, int work) {
        if (view == WHOLE) {
            return asked.shareByOne(work);
        }
        // Without a work the cone of EVEN has no edges; and no sum gives what the work gives.
        if (asked.firstPart() == NONE) {
            return new Fraction(0, 0);
        }
        askedCone.build(asked, view);
        return askedCone.shareOf(asked, work);
    }

    private static long commonDivisor(long one, long other) {
        long a = one < 0 ? -one : one;
        long b = other < 0 ? -other : other;
        // Euclid's steps for longs are under a hundred.
        for (int step = 0; step < 100 && b != 0; step++) {
            long rest = a % b;
            a = b;
            b = rest;
        }
        return a;
    }

    /** A fraction in lowest terms; a bottom of 0 says that there is none. */
    private static final class Fraction {
        private final long top;
        private final long bottom;

        private Fraction(long top, long bottom) {
            long divisor = commonDivisor(top, bottom);
            this.top = divisor > 1 ? top / divisor : top;
            this.bottom = divisor > 1 ? bottom / divisor : bottom;
        }

        private boolean isNone() {
            return bottom == 0;
        }

        private boolean isLike(Fraction other) {
            return top == other.top && bottom == other.bottom;
        }
    }

    /** The numbers of all works, and which of them sums are made of. */
    private static final class Rows {
        private int ins;
        private int outs;
        private final int[] number = new int[MOST_WORKS * MOST_THINGS];
        private final boolean[] part = new boolean[MOST_WORKS];

        private void copy(Rows from) {
            ins = from.ins;
            outs = from.outs;
            System.arraycopy(from.number, 0, number, 0, MOST_WORKS * MOST_THINGS);
            for (int work = 0; work < MOST_WORKS; work++) {
                part[work] = from.part[work];
            }
        }

        private int of(int work, int thing) {
            return number[work * MOST_THINGS + thing];
        }

        private int firstPart() {
            for (int work = 0; work < MOST_WORKS; work++) {
                if (part[work]) {
                    return work;
                }
            }
            return NONE;
        }

        private boolean takes(int work) {
            return !areZero(number, work, 0, ins);
        }

        private boolean gives(int work) {
            return !areZero(number, work, ins, ins + outs);
        }

        /** With prices the INS are one alone, so that COST is a SHARE. */
        private void priceIns(int first, int second) {
            for (int work = 0; work < MOST_WORKS; work++) {
                int price = first * of(work, 0);
                if (ins == MOST_INS) {
                    price += second * of(work, 1);
                }
                for (int out = 0; out < outs; out++) {
                    number[work * MOST_THINGS + 1 + out] = of(work, ins + out);
                }
                number[work * MOST_THINGS] = price;
            }
            ins = 1;
        }

        /** SHARE by WHOLE. */
        private Fraction shareByOne(int work) {
            long top = 0;
            long bottom = 0;
            for (int other = 0; other < MOST_WORKS; other++) {
                for (int in = 0; in < ins; in++) {
                    long takes = of(other, in);
                    long most = of(work, in);
                    boolean isLess = bottom == 0 || takes * bottom < top * most;
                    if (part[other] && most > 0 && isLess && fits(other, work, takes, most)) {
                        top = takes;
                        bottom = most;
                    }
                }
            }
            return new Fraction(top, bottom);
        }

        /** Whether another work alone takes at most top by bottom of what the work takes, and gives what it gives. */
        private boolean fits(int other, int work, long top, long bottom) {
            for (int in = 0; in < ins; in++) {
                if (of(other, in) * bottom > of(work, in) * top) {
                    return false;
                }
            }
            for (int out = ins; out < ins + outs; out++) {
                if (of(other, out) < of(work, out)) {
                    return false;
                }
            }
            return true;
        }

        /** STRONG by WHOLE, for a work with SHARE 1. */
        private boolean isMatchedByItsLikeAlone(int work) {
            for (int other = 0; other < MOST_WORKS; other++) {
                if (part[other] && fits(other, work, 1, 1) && !fits(work, other, 1, 1)) {
                    return false;
                }
            }
            return true;
        }
    }

    /**
     * The SIDES of a VIEW: the edges of the cone of its WEIGHTS. Their numbers are determinants of at most four rows
     * and stay below 2^24, weighed ones below 2^31: longs hold all products of two of these.
     */
    private static final class Cone {
        private static final int WIDTH = MOST_THINGS + 1;
        /**
         * With 17 bounds in five dimensions a cone has 119 edges at most; before the last bound 104, and 28 new ones
         * lie on a bound.
         */
        private static final int MOST_RAYS = 144;

        private int ins;
        private int things;
        private int fewestShared;
        private int many;
        private boolean isFresh;
        private final long[] ray = new long[MOST_RAYS * WIDTH];
        /** Bit by bit the bounds that a ray lies on: THINGS, the LAST, works. */
        private final int[] tight = new int[MOST_RAYS];
        private final long[] slack = new long[MOST_RAYS];

        private void build(Rows rows, int view) {
            ins = rows.ins;
            things = rows.ins + rows.outs;
            // Two edges with a plane between them share all dimensions' bounds but two.
            fewestShared = (view == FREE ? things : things + 1) - 2;
            begin(rows, view);
            for (int work = 0; work < MOST_WORKS; work++) {
                if (rows.part[work]) {
                    cut(rows, work);
                }
            }
            sort();
        }

        /** The cone before works bound it; by EVEN it has edges only with the first work. */
        private void begin(Rows rows, int view) {
            int axes = (1 << things) - 1;
            int lastBound = view == LEAST ? 1 << things : 0;
            int first = view == EVEN ? rows.firstPart() : NONE;
            many = 0;
            for (int thing = 0; thing < things; thing++) {
                int last = first == NONE ? 0 : rows.of(first, thing);
                addAxis(thing, 1, (axes & ~(1 << thing)) | lastBound);
                ray[(many - 1) * WIDTH + things] = thing < ins ? last : -last;
            }
            if (view != FREE) {
                addAxis(things, -1, axes);
            }
        }

        private void addAxis(int place, int length, int bounds) {
            for (int k = 0; k < WIDTH; k++) {
                ray[many * WIDTH + k] = k == place ? length : 0;
            }
            tight[many] = bounds;
            many++;
        }

        /** Keeps what a work bounds: rays beyond the bound give way to those on it, between neighbours. */
        private void cut(Rows rows, int work) {
            int bound = 1 << (WIDTH + work);
            int old = many;
            for (int r = 0; r < old; r++) {
                slack[r] = insWeighed(r, rows, work) - outsWeighed(r, rows, work);
            }
            for (int within = 0; within < old; within++) {
                for (int beyond = 0; slack[within] > 0 && beyond < old; beyond++) {
                    if (slack[beyond] < 0 && areNeighbours(within, beyond, old)) {
                        join(within, beyond, bound);
                    }
                }
            }
            int kept = 0;
            for (int r = 0; r < many; r++) {
                if (r >= old || slack[r] >= 0) {
                    if (r < old && slack[r] == 0) {
                        tight[r] |= bound;
                    }
                    move(r, kept);
                    kept++;
                }
            }
            many = kept;
        }

        private boolean areNeighbours(int one, int other, int old) {
            int shared = tight[one] & tight[other];
            if (Integer.bitCount(shared) < fewestShared) {
                return false;
            }
            for (int r = 0; r < old; r++) {
                if (r != one && r != other && (tight[r] & shared) == shared) {
                    return false;
                }
            }
            return true;
        }

        private void join(int within, int beyond, int bound) {
            if (many >= MOST_RAYS) {
                return;
            }
            long divisor = 0;
            for (int k = 0; k <= things; k++) {
                long sum = slack[within] * ray[beyond * WIDTH + k] - slack[beyond] * ray[within * WIDTH + k];
                ray[many * WIDTH + k] = sum;
                divisor = commonDivisor(divisor, sum);
            }
            for (int k = 0; k <= things && divisor > 1; k++) {
                ray[many * WIDTH + k] /= divisor;
            }
            tight[many] = (tight[within] & tight[beyond]) | bound;
            many++;
        }

        private void move(int from, int to) {
            for (int k = 0; k <= things; k++) {
                ray[to * WIDTH + k] = ray[from * WIDTH + k];
            }
            tight[to] = tight[from];
        }

        private void sort() {
            for (int next = 1; next < many; next++) {
                for (int r = next; r > 0 && isBefore(r, r - 1); r--) {
                    swap(r, r - 1);
                }
            }
        }

        private boolean isBefore(int one, int other) {
            for (int k = 0; k <= things; k++) {
                long difference = ray[one * WIDTH + k] - ray[other * WIDTH + k];
                if (difference != 0) {
                    return difference > 0;
                }
            }
            return false;
        }

        private void swap(int one, int other) {
            for (int k = 0; k <= things; k++) {
                long number = ray[one * WIDTH + k];
                ray[one * WIDTH + k] = ray[other * WIDTH + k];
                ray[other * WIDTH + k] = number;
            }
            int bounds = tight[one];
            tight[one] = tight[other];
            tight[other] = bounds;
        }

        private long insWeighed(int r, Rows rows, int work) {
            long sum = 0;
            for (int in = 0; in < ins; in++) {
                sum += ray[r * WIDTH + in] * rows.of(work, in);
            }
            return sum;
        }

        /** With the LAST. */
        private long outsWeighed(int r, Rows rows, int work) {
            long sum = ray[r * WIDTH + things];
            for (int out = ins; out < things; out++) {
                sum += ray[r * WIDTH + out] * rows.of(work, out);
            }
            return sum;
        }

        /** SHARE of a work that takes something. There is none if its OUTS weigh something where its INS don't. */
        private Fraction shareOf(Rows rows, int work) {
            long top = 0;
            long bottom = 0;
            for (int r = 0; r < many; r++) {
                long taken = insWeighed(r, rows, work);
                long given = outsWeighed(r, rows, work);
                if (taken == 0 && given > 0) {
                    return new Fraction(0, 0);
                }
                if (taken > 0 && (bottom == 0 || given * bottom > top * taken)) {
                    top = given;
                    bottom = taken;
                }
            }
            return new Fraction(top, bottom);
        }

        /** Whether a ray is among those that span what is best for a work. */
        private boolean isBest(int r, Rows rows, int work, Fraction share) {
            return outsWeighed(r, rows, work) * share.bottom == insWeighed(r, rows, work) * share.top;
        }

        private boolean weighsAllThings(Rows rows, int work, Fraction share) {
            int weighed = 0;
            for (int r = 0; r < many; r++) {
                if (isBest(r, rows, work, share)) {
                    weighed |= ~tight[r];
                }
            }
            int axes = (1 << things) - 1;
            return (weighed & axes) == axes;
        }

        private boolean isTightWhereBest(Rows rows, int work, Fraction share, int other) {
            int bound = 1 << (WIDTH + other);
            for (int r = 0; r < many; r++) {
                if ((tight[r] & bound) == 0 && isBest(r, rows, work, share)) {
                    return false;
                }
            }
            return true;
        }
    }
}
