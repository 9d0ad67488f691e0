import java.math.BigInteger;
import java.util.ArrayList;
import java.util.Arrays;
import java.util.HashMap;
import java.util.List;
import java.util.Map;
import java.util.Optional;
import java.util.function.Supplier;

/**
 * The document said again, plainly and slowly, with nothing of the class in it: SHARES, COST, PEERS and STRONG by
 * linear programs over the sums themselves, SIDES by trying all sets of bounds, SPAN by trying all whole numbers.
 */
final class Oracle {
    private int ins = 1;
    private int outs = 1;
    private final List<int[]> low = new ArrayList<>();
    private final List<int[]> high = new ArrayList<>();
    private final List<Boolean> there = new ArrayList<>();
    private final Map<Integer, List<BigInteger[]>> knownSides = new HashMap<>();
    private final Map<String, Optional<Ratio>> knownRatios = new HashMap<>();

    boolean start(int ins, int outs) {
        if (ins < 1 || ins > 2 || outs < 1 || outs > 2) {
            return false;
        }
        this.ins = ins;
        this.outs = outs;
        low.clear();
        high.clear();
        there.clear();
        forget();
        return true;
    }

    int work(int a, int b, int c, int d) {
        int[] row = Arrays.copyOf(new int[] {a, b, c, d}, ins + outs);
        for (int number : row) {
            if (number < 0 || number > 30) {
                return -1;
            }
        }
        if (low.size() == 12 || isBare(row)) {
            return -1;
        }
        low.add(row.clone());
        high.add(row.clone());
        there.add(true);
        forget();
        return low.size() - 1;
    }

    boolean set(int work, boolean there) {
        if (!isWork(work) || this.there.get(work) == there) {
            return false;
        }
        this.there.set(work, there);
        forget();
        return true;
    }

    boolean missing(int work, int thing, int low, int high) {
        if (!isWork(work) || thing < 0 || thing >= ins + outs || low < 0 || low > high || high > 30) {
            return false;
        }
        this.low.get(work)[thing] = low;
        this.high.get(work)[thing] = high;
        forget();
        return true;
    }

    int at(int work, int thing, int what) {
        if (!isWork(work) || thing < 0 || thing >= ins + outs || what < 0 || what > 1) {
            return -1;
        }
        return (what == 0 ? low : high).get(work)[thing];
    }

    long share(int view, int work, int what) {
        return isHeld(view, work) ? part(toldShare(view, work), what) : -1;
    }

    int strong(int view, int work) {
        if (!isHeld(view, work)) {
            return -1;
        }
        int[][] rows = told();
        if (toldShare(view, work).compareTo(Ratio.ONE) != 0) {
            return 0;
        }
        if (view == 3) {
            for (int other : parts()) {
                if (isWay(rows, other, work, Ratio.ONE) && !Arrays.equals(rows[other], rows[work])) {
                    return 0;
                }
            }
            return 1;
        }
        Ratio[] goal = new Ratio[parts().size()];
        for (int j = 0; j < goal.length; j++) {
            goal[j] = Ratio.of(takenLessGiven(rows[parts().get(j)]));
        }
        Program program = ways(view, rows, parts(), work, Ratio.ONE);
        program.least(goal);
        return program.isBounded && program.value.compareTo(Ratio.of(takenLessGiven(rows[work]))) == 0 ? 1 : 0;
    }

    int peer(int view, int work, int other) {
        if (!isHeld(view, work) || !isWork(other) || !there.get(other)) {
            return -1;
        }
        int[][] rows = told();
        Ratio share = toldShare(view, work);
        if (view == 3) {
            return isWay(rows, other, work, share) ? 1 : 0;
        }
        Ratio[] goal = new Ratio[parts().size()];
        Arrays.fill(goal, Ratio.ZERO);
        goal[parts().indexOf(other)] = Ratio.of(-1);
        Program program = ways(view, rows, parts(), work, share);
        program.least(goal);
        return !program.isBounded || program.value.sign() < 0 ? 1 : 0;
    }

    int size(int work) {
        if (!isHeld(0, work)) {
            return 2;
        }
        Ratio free = toldShare(0, work);
        if (free.compareTo(toldShare(2, work)) == 0) {
            return 0;
        }
        return free.compareTo(toldShare(1, work)) == 0 ? 1 : -1;
    }

    long above(int view, int work, int what) {
        if (!isHeld(view, work)) {
            return -1;
        }
        List<Integer> others = parts();
        others.remove((Integer) work);
        return part(once("above " + view + " " + work, () -> shareOf(view, told(), others, work)), what);
    }

    long cost(int view, int work, int first, int second, int what) {
        if (!isHeld(view, work) || first < 0 || first > 30 || ins == 2 && (second < 0 || second > 30)) {
            return -1;
        }
        int[][] rows = told();
        Ratio due = Ratio.of(price(rows[work], first, second));
        if (due.sign() == 0) {
            return -1;
        }
        if (view == 3) {
            Ratio best = null;
            for (int other : parts()) {
                Ratio price = Ratio.of(price(rows[other], first, second));
                if (givesEnough(rows, other, work) && (best == null || price.compareTo(best) < 0)) {
                    best = price;
                }
            }
            return part(best.by(due), what);
        }
        Ratio[] goal = new Ratio[parts().size()];
        Program program = new Program(goal.length);
        for (int j = 0; j < goal.length; j++) {
            goal[j] = Ratio.of(price(rows[parts().get(j)], first, second));
        }
        boundOutsAndFactors(program, view, rows, parts(), work, goal.length);
        program.least(goal);
        return part(program.value.by(due), what);
    }

    long span(int view, int work, boolean greatest, int what) {
        if (!isHeld(view, work) || count(4) > 4) {
            return -1;
        }
        String name = "span " + view + " " + work + " " + greatest;
        return part(once(name, () -> spanFrom(0, told(), view, work, greatest)), what);
    }

    int sides(int view) {
        return view < 0 || view > 2 || parts().isEmpty() ? -1 : allSides(view).size();
    }

    int side(int view, int i, int k) {
        return i < 0 || i >= sides(view) || k < 0 || k > ins + outs ? -1 : allSides(view).get(i)[k].intValueExact();
    }

    int suits(int view, int work, int i) {
        if (!isHeld(view, work) || i < 0 || i >= sides(view)) {
            return -1;
        }
        BigInteger[] side = allSides(view).get(i);
        int[] row = told()[work];
        BigInteger taken = BigInteger.ZERO;
        BigInteger given = side[ins + outs];
        for (int thing = 0; thing < ins + outs; thing++) {
            BigInteger weighed = side[thing].multiply(BigInteger.valueOf(row[thing]));
            taken = thing < ins ? taken.add(weighed) : taken;
            given = thing < ins ? given : given.add(weighed);
        }
        Ratio share = toldShare(view, work);
        return taken.signum() > 0 && given.multiply(share.bottom()).equals(taken.multiply(share.top())) ? 1 : 0;
    }

    int count(int what) {
        int sum = 0;
        for (int work : parts()) {
            for (int thing = 0; thing < ins + outs; thing++) {
                sum += low.get(work)[thing] < high.get(work)[thing] ? 1 : 0;
            }
        }
        int[] counts = {ins, outs, low.size(), parts().size(), sum};
        return what < 0 || what > 4 ? -1 : counts[what];
    }

    private void forget() {
        knownSides.clear();
        knownRatios.clear();
    }

    /** What was reckoned since the last change is not reckoned again. */
    private Ratio once(String name, Supplier<Ratio> reckoned) {
        if (!knownRatios.containsKey(name)) {
            knownRatios.put(name, Optional.ofNullable(reckoned.get()));
        }
        return knownRatios.get(name).orElse(null);
    }

    private Ratio toldShare(int view, int work) {
        return once("share " + view + " " + work, () -> shareOf(view, told(), parts(), work));
    }

    private boolean isWork(int work) {
        return work >= 0 && work < low.size();
    }

    private boolean isHeld(int view, int work) {
        return view >= 0 && view <= 3 && isWork(work) && there.get(work) && !isBare(told()[work]);
    }

    private boolean isBare(int[] row) {
        return Arrays.stream(row, 0, ins).sum() == 0 || Arrays.stream(row, ins, ins + outs).sum() == 0;
    }

    private int[][] told() {
        int[][] rows = new int[low.size()][ins + outs];
        for (int work = 0; work < rows.length; work++) {
            for (int thing = 0; thing < ins + outs; thing++) {
                rows[work][thing] = (thing < ins ? low : high).get(work)[thing];
            }
        }
        return rows;
    }

    private List<Integer> parts() {
        List<Integer> parts = new ArrayList<>();
        for (int work = 0; work < low.size(); work++) {
            if (there.get(work)) {
                parts.add(work);
            }
        }
        return parts;
    }

    private static long part(Ratio ratio, int what) {
        if (ratio == null || what < 0 || what > 1) {
            return -1;
        }
        return (what == 0 ? ratio.top() : ratio.bottom()).longValueExact();
    }

    private long price(int[] row, int first, int second) {
        return (long) first * row[0] + (ins == 2 ? (long) second * row[1] : 0);
    }

    private long takenLessGiven(int[] row) {
        return Arrays.stream(row, 0, ins).sum() - Arrays.stream(row, ins, ins + outs).sum();
    }

    private boolean givesEnough(int[][] rows, int other, int work) {
        for (int out = ins; out < ins + outs; out++) {
            if (rows[other][out] < rows[work][out]) {
                return false;
            }
        }
        return true;
    }

    private boolean isWay(int[][] rows, int other, int work, Ratio factor) {
        for (int in = 0; in < ins; in++) {
            if (Ratio.of(rows[other][in]).compareTo(factor.times(Ratio.of(rows[work][in]))) > 0) {
                return false;
            }
        }
        return givesEnough(rows, other, work);
    }

    /** Null: there is none. */
    private Ratio shareOf(int view, int[][] rows, List<Integer> parts, int work) {
        if (view == 3) {
            return shareByOne(rows, parts, work);
        }
        int count = parts.size();
        Program program = new Program(count + 1);
        for (int in = 0; in < ins; in++) {
            Ratio[] row = new Ratio[count + 2];
            for (int j = 0; j < count; j++) {
                row[j] = Ratio.of(rows[parts.get(j)][in]);
            }
            row[count] = Ratio.of(-rows[work][in]);
            row[count + 1] = Ratio.ZERO;
            program.row(-1, row);
        }
        boundOutsAndFactors(program, view, rows, parts, work, count + 1);
        Ratio[] goal = new Ratio[count + 1];
        Arrays.fill(goal, Ratio.ZERO);
        goal[count] = Ratio.ONE;
        program.least(goal);
        return program.isFeasible ? program.value : null;
    }

    private Ratio shareByOne(int[][] rows, List<Integer> parts, int work) {
        Ratio best = null;
        for (int other : parts) {
            Ratio factor = Ratio.ZERO;
            for (int in = 0; in < ins; in++) {
                if (rows[work][in] > 0) {
                    Ratio one = Ratio.of(rows[other][in]).by(Ratio.of(rows[work][in]));
                    factor = one.compareTo(factor) > 0 ? one : factor;
                }
            }
            if (isWay(rows, other, work, factor) && (best == null || factor.compareTo(best) < 0)) {
                best = factor;
            }
        }
        return best;
    }

    /** The sums that need of each IN at most a factor times what the work takes. */
    private Program ways(int view, int[][] rows, List<Integer> parts, int work, Ratio factor) {
        int count = parts.size();
        Program program = new Program(count);
        for (int in = 0; in < ins; in++) {
            Ratio[] row = new Ratio[count + 1];
            for (int j = 0; j < count; j++) {
                row[j] = Ratio.of(rows[parts.get(j)][in]);
            }
            row[count] = factor.times(Ratio.of(rows[work][in]));
            program.row(-1, row);
        }
        boundOutsAndFactors(program, view, rows, parts, work, count);
        return program;
    }

    private void boundOutsAndFactors(
        Program program, int view, int[][] rows, List<Integer> parts, int work, int variables) {
        for (int out = ins; out <= ins + outs; out++) {
            Ratio[] row = new Ratio[variables + 1];
            Arrays.fill(row, Ratio.ZERO);
            for (int j = 0; j < parts.size(); j++) {
                row[j] = out < ins + outs ? Ratio.of(rows[parts.get(j)][out]) : Ratio.ONE;
            }
            row[variables] = out < ins + outs ? Ratio.of(rows[work][out]) : Ratio.ONE;
            if (out < ins + outs) {
                program.row(1, row);
            } else if (view > 0) {
                program.row(view == 1 ? -1 : 0, row);
            }
        }
    }

    /** Null: some work THERE takes nothing, or gives nothing, somewhere. */
    private Ratio spanFrom(int place, int[][] rows, int view, int work, boolean greatest) {
        int things = ins + outs;
        if (place == rows.length * things) {
            for (int other : parts()) {
                if (isBare(rows[other])) {
                    return null;
                }
            }
            return shareOf(view, rows, parts(), work);
        }
        int one = place / things;
        int thing = place % things;
        if (!there.get(one)) {
            return spanFrom(place + 1, rows, view, work, greatest);
        }
        Ratio best = null;
        for (int number = low.get(one)[thing]; number <= high.get(one)[thing]; number++) {
            rows[one][thing] = number;
            Ratio share = spanFrom(place + 1, rows, view, work, greatest);
            if (share == null) {
                return null;
            }
            if (best == null || share.compareTo(best) > 0 == greatest) {
                best = share;
            }
        }
        return best;
    }

    private List<BigInteger[]> allSides(int view) {
        if (!knownSides.containsKey(view)) {
            int things = ins + outs;
            int width = view == 0 ? things : things + 1;
            List<long[]> bounds = new ArrayList<>();
            for (int thing = 0; thing < things; thing++) {
                long[] bound = new long[width];
                bound[thing] = 1;
                bounds.add(bound);
            }
            if (view == 1) {
                long[] bound = new long[width];
                bound[things] = -1;
                bounds.add(bound);
            }
            for (int work : parts()) {
                long[] bound = new long[width];
                for (int thing = 0; thing < things; thing++) {
                    bound[thing] = thing < ins ? told()[work][thing] : -told()[work][thing];
                }
                if (view > 0) {
                    bound[things] = -1;
                }
                bounds.add(bound);
            }
            knownSides.put(view, edges(bounds, width, things + 1));
        }
        return knownSides.get(view);
    }

    private static List<BigInteger[]> edges(List<long[]> bounds, int width, int length) {
        List<BigInteger[]> found = new ArrayList<>();
        for (int set = 0; set < 1 << bounds.size(); set++) {
            if (Integer.bitCount(set) != width - 1) {
                continue;
            }
            BigInteger[][] rows = new BigInteger[width - 1][width];
            int filled = 0;
            for (int b = 0; b < bounds.size(); b++) {
                if ((set >> b & 1) == 1) {
                    for (int k = 0; k < width; k++) {
                        rows[filled][k] = BigInteger.valueOf(bounds.get(b)[k]);
                    }
                    filled++;
                }
            }
            BigInteger[] row = direction(rows, width, length);
            if (row == null) {
                continue;
            }
            for (int turn = 0; turn < 2; turn++) {
                BigInteger[] turned = row.clone();
                for (int k = 0; k < length; k++) {
                    turned[k] = turn == 0 ? row[k] : row[k].negate();
                }
                if (isWithin(turned, bounds, width) && found.stream().noneMatch(f -> Arrays.equals(f, turned))) {
                    found.add(turned);
                }
            }
        }
        found.sort((one, other) -> Arrays.compare(other, one));
        return found;
    }

    private static boolean isWithin(BigInteger[] row, List<long[]> bounds, int width) {
        for (long[] bound : bounds) {
            BigInteger sum = BigInteger.ZERO;
            for (int k = 0; k < width; k++) {
                sum = sum.add(row[k].multiply(BigInteger.valueOf(bound[k])));
            }
            if (sum.signum() < 0) {
                return false;
            }
        }
        return true;
    }

    /** The one direction on which all rows are 0, by Cramer's rule; null if there are more. */
    private static BigInteger[] direction(BigInteger[][] rows, int width, int length) {
        BigInteger[] row = new BigInteger[length];
        Arrays.fill(row, BigInteger.ZERO);
        BigInteger divisor = BigInteger.ZERO;
        for (int left = 0; left < width; left++) {
            BigInteger[][] minor = new BigInteger[width - 1][width - 1];
            for (int r = 0; r < width - 1; r++) {
                for (int c = 0; c < width - 1; c++) {
                    minor[r][c] = rows[r][c < left ? c : c + 1];
                }
            }
            row[left] = left % 2 == 0 ? determinant(minor, 0, 0) : determinant(minor, 0, 0).negate();
            divisor = divisor.gcd(row[left]);
        }
        if (divisor.signum() == 0) {
            return null;
        }
        for (int k = 0; k < length; k++) {
            row[k] = row[k].divide(divisor);
        }
        return row;
    }

    private static BigInteger determinant(BigInteger[][] square, int from, int used) {
        if (from == square.length) {
            return BigInteger.ONE;
        }
        BigInteger sum = BigInteger.ZERO;
        int sign = 1;
        for (int c = 0; c < square.length; c++) {
            if ((used >> c & 1) == 0) {
                if (square[from][c].signum() != 0) {
                    BigInteger rest = determinant(square, from + 1, used | 1 << c);
                    sum = sum.add(square[from][c].multiply(rest).multiply(BigInteger.valueOf(sign)));
                }
                sign = -sign;
            }
        }
        return sum;
    }
}
