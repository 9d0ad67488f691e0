import java.util.ArrayList;
import java.util.List;
import java.util.function.Supplier;
import java.util.function.ToLongFunction;

/**
 * "What is refused answers as told and changes nothing": each refused call is made on benches of all kinds, and then
 * all that can be asked is answered as if it had not been made. Calls that only ask change nothing either.
 */
public final class RefusalsTest extends Checks {
    private static final int CALLS_AN_OBJECT = 400;

    /** A call that is refused with a given answer; or, where it only asks, with any answer. */
    private record Call(String name, int promise, ToLongFunction<EdgeBench> made, Long refusal) { }

    public static void main(String[] args) {
        tryAll("a new object", EdgeBench::new);
        tryAll("a bench of one IN and one OUT", RefusalsTest::small);
        tryAll("a bench of two INS and two OUTS", RefusalsTest::mixed);
        tryAll("a bench of one IN and two OUTS", RefusalsTest::bareOne);
        tryAll("a full bench", RefusalsTest::full);
        tryAll("a bench of dropped works", RefusalsTest::allDropped);
        finish();
    }

    private static EdgeBench small() {
        EdgeBench x = bench(1, 1, row(2, 2), row(4, 6), row(6, 6));
        x.missing(1, 1, 3, 6);
        x.set(0, false);
        return x;
    }

    private static EdgeBench mixed() {
        EdgeBench x = bench(2, 2, row(3, 7, 2, 9), row(6, 2, 8, 1), row(9, 9, 9, 9), row(0, 4, 3, 0));
        x.missing(0, 0, 1, 5);
        x.missing(2, 3, 4, 9);
        x.missing(3, 1, 2, 4);
        x.set(1, false);
        return x;
    }

    private static EdgeBench bareOne() {
        EdgeBench x = bench(1, 2, row(2, 2, 9), row(4, 6, 1), row(6, 6, 6));
        x.missing(1, 0, 0, 4);
        x.missing(0, 1, 1, 2);
        return x;
    }

    private static EdgeBench full() {
        EdgeBench x = bench(2, 1);
        for (int work = 0; work < MOST_WORKS; work++) {
            x.work(3 + work * 5 % 11, 2 + work * 7 % 12, 4 + work * 3 % 5, 0);
        }
        x.missing(11, 2, 2, 30);
        x.set(7, false);
        return x;
    }

    private static EdgeBench allDropped() {
        EdgeBench x = bench(2, 1, row(2, 2, 9), row(4, 6, 1));
        x.missing(1, 0, 2, 4);
        x.set(0, false);
        x.set(1, false);
        return x;
    }

    /** Makes each call on a new bench, and on one that has been asked before. */
    private static void tryAll(String name, Supplier<EdgeBench> made) {
        List<Call> calls = new ArrayList<>();
        refusedStarts(calls);
        refusedWorks(calls, made.get());
        refusedSets(calls, made.get());
        refusedMissings(calls, made.get());
        refusedAsks(calls, made.get());
        asks(calls, made.get());
        List<Long> want = answers(made);
        due(0, "as many answers", answers(made).equals(want), true);
        for (Call call : calls) {
            if (call.refusal != null) {
                due(call.promise, call.name + " on " + name, call.made.applyAsLong(made.get()), call.refusal);
            }
            due(call.promise, call.name + " changes nothing on " + name, answers(() -> {
                EdgeBench x = made.get();
                call.made.applyAsLong(x);
                return x;
            }).equals(want), true);
            due(call.promise, call.name + " changes nothing on " + name + ", asked before", answers(() -> {
                EdgeBench x = made.get();
                for (int view = FREE; view <= WHOLE; view++) {
                    x.sides(view);
                    x.above(view, 0, 0);
                }
                call.made.applyAsLong(x);
                return x;
            }).equals(want), true);
        }
    }

    private static void refuse(
        List<Call> calls, int promise, String name, long refusal, ToLongFunction<EdgeBench> made) {
        calls.add(new Call(name, promise, made, refusal));
    }

    private static void refusedStarts(List<Call> calls) {
        int[][] counts = {
            {0, 1}, {3, 1}, {1, 0}, {1, 3}, {0, 0}, {3, 3}, {2, 3}, {0, 2}, {-1, 1}, {1, -1},
            {Integer.MIN_VALUE, Integer.MIN_VALUE}, {Integer.MAX_VALUE, Integer.MAX_VALUE}
        };
        for (int[] two : counts) {
            refuse(calls, 2, "start(" + two[0] + ", " + two[1] + ")", 0, x -> x.start(two[0], two[1]) ? 1 : 0);
        }
    }

    private static void refusedWorks(List<Call> calls, EdgeBench like) {
        int ins = like.count(0);
        int things = ins + like.count(1);
        int[] bad = {-1, 31, Integer.MIN_VALUE, Integer.MAX_VALUE};
        for (int thing = 0; thing < things; thing++) {
            for (int number : bad) {
                int[] row = {1, 1, 1, 1};
                row[thing] = number;
                refuse(calls, 3, "a work with " + number + " of THING " + thing, NONE, x -> add(x, row));
            }
        }
        int[] noIn = {1, 1, 1, 1};
        int[] noOut = {1, 1, 1, 1};
        for (int thing = 0; thing < things; thing++) {
            (thing < ins ? noIn : noOut)[thing] = 0;
        }
        refuse(calls, 3, "a work without INS", NONE, x -> add(x, noIn));
        refuse(calls, 3, "a work without OUTS", NONE, x -> add(x, noOut));
        if (like.count(2) == MOST_WORKS) {
            refuse(calls, 3, "a work too many", NONE, x -> x.work(1, 30, 30, 30));
        }
    }

    private static void refusedSets(List<Call> calls, EdgeBench like) {
        for (int work : none(like.count(2))) {
            refuse(calls, 4, "set(" + work + ", true)", 0, x -> x.set(work, true) ? 1 : 0);
            refuse(calls, 4, "set(" + work + ", false)", 0, x -> x.set(work, false) ? 1 : 0);
        }
        for (int each = 0; each < like.count(2); each++) {
            int work = each;
            boolean isThere = !like.set(work, true);
            refuse(calls, 4, "set(" + work + ") as it is", 0, x -> x.set(work, isThere) ? 1 : 0);
        }
    }

    private static int[] none(int end) {
        return new int[] {-1, end, end + 1, Integer.MIN_VALUE, Integer.MAX_VALUE};
    }

    private static void refusedMissings(List<Call> calls, EdgeBench like) {
        int works = like.count(2);
        int things = like.count(0) + like.count(1);
        for (int work : none(works)) {
            refuse(calls, 5, "missing of work " + work, 0, x -> x.missing(work, 0, 1, 2) ? 1 : 0);
        }
        for (int thing : none(things)) {
            refuse(calls, 5, "missing of thing " + thing, 0, x -> x.missing(0, thing, 1, 2) ? 1 : 0);
        }
        int[][] ends = {
            {-1, 2}, {1, 31}, {31, 31}, {-1, -1}, {5, 4}, {1, 0}, {30, 29}, {30, 0}, {-1, 31},
            {Integer.MIN_VALUE, Integer.MAX_VALUE}, {Integer.MAX_VALUE, Integer.MIN_VALUE}
        };
        for (int[] two : ends) {
            for (int place = 0; place < Math.max(1, works) * things; place += 3) {
                int work = place / things;
                int thing = place % things;
                refuse(calls, 5, "missing(" + work + ", " + thing + ", " + two[0] + ", " + two[1] + ")", 0,
                    x -> x.missing(work, thing, two[0], two[1]) ? 1 : 0);
            }
        }
    }

    private static void refusedAsks(List<Call> calls, EdgeBench like) {
        for (int work : none(like.count(2))) {
            String of = " of work " + work;
            refuse(calls, 6, "at" + of, NONE, x -> x.at(work, 0, 0));
            refuse(calls, 7, "share" + of, NONE, x -> x.share(FREE, work, 0));
            refuse(calls, 8, "strong" + of, NONE, x -> x.strong(FREE, work));
            refuse(calls, 9, "peer" + of, NONE, x -> x.peer(FREE, work, 0));
            refuse(calls, 9, "peer" + of, NONE, x -> x.peer(FREE, 0, work));
            refuse(calls, 10, "size" + of, 2, x -> x.size(work));
            refuse(calls, 11, "above" + of, NONE, x -> x.above(FREE, work, 0));
            refuse(calls, 12, "cost" + of, NONE, x -> x.cost(FREE, work, 1, 1, 0));
            refuse(calls, 13, "span" + of, NONE, x -> x.span(FREE, work, true, 0));
            refuse(calls, 16, "suits" + of, NONE, x -> x.suits(FREE, work, 0));
        }
        for (int view : none(WHOLE + 1)) {
            String by = " by view " + view;
            refuse(calls, 7, "share" + by, NONE, x -> x.share(view, 0, 0));
            refuse(calls, 8, "strong" + by, NONE, x -> x.strong(view, 0));
            refuse(calls, 9, "peer" + by, NONE, x -> x.peer(view, 0, 0));
            refuse(calls, 11, "above" + by, NONE, x -> x.above(view, 0, 0));
            refuse(calls, 12, "cost" + by, NONE, x -> x.cost(view, 0, 1, 1, 0));
            refuse(calls, 13, "span" + by, NONE, x -> x.span(view, 0, true, 0));
            refuse(calls, 14, "sides" + by, NONE, x -> x.sides(view));
            refuse(calls, 15, "side" + by, NONE, x -> x.side(view, 0, 0));
            refuse(calls, 16, "suits" + by, NONE, x -> x.suits(view, 0, 0));
            refuse(calls, 17, "count" + by, NONE, x -> x.count(view < 0 ? view : 5));
        }
        for (int what : none(2)) {
            String of = " of what " + what;
            refuse(calls, 6, "at" + of, NONE, x -> x.at(0, 0, what));
            refuse(calls, 7, "share" + of, NONE, x -> x.share(EVEN, 0, what));
            refuse(calls, 11, "above" + of, NONE, x -> x.above(EVEN, 0, what));
            refuse(calls, 12, "cost" + of, NONE, x -> x.cost(EVEN, 0, 1, 1, what));
            refuse(calls, 13, "span" + of, NONE, x -> x.span(EVEN, 0, false, what));
        }
        refuse(calls, 12, "cost of price 31", NONE, x -> x.cost(EVEN, 0, 31, 0, 0));
        refuse(calls, 12, "cost of price -1", NONE, x -> x.cost(EVEN, 0, -1, 5, 0));
        refuse(calls, 12, "cost without prices", NONE, x -> x.cost(EVEN, 0, 0, 0, 0));
        refuse(calls, 14, "sides by WHOLE", NONE, x -> x.sides(WHOLE));
        refuse(calls, 15, "side -1", NONE, x -> x.side(EVEN, -1, 0));
        refuse(calls, 15, "side 999", NONE, x -> x.side(EVEN, 999, 0));
        refuse(calls, 15, "number -1", NONE, x -> x.side(EVEN, 0, -1));
        refuse(calls, 15, "number 5", NONE, x -> x.side(EVEN, 0, 5));
    }

    private static void asks(List<Call> calls, EdgeBench like) {
        for (int place = 0; place < 4 * like.count(2); place++) {
            int view = place % 4;
            int work = place / 4;
            calls.add(new Call("above", 11, x -> x.above(view, work, 0), null));
            calls.add(new Call("cost", 12, x -> x.cost(view, work, 30, 1, 0), null));
            calls.add(new Call("span", 13, x -> x.span(view, work, true, 0) + x.span(view, work, false, 0), null));
        }
    }

    /** All that can be asked of a bench, asked of as many objects as that takes. */
    private static List<Long> answers(Supplier<EdgeBench> made) {
        return new Asked(made).all();
    }

    private static final class Asked {
        private final Supplier<EdgeBench> made;
        private final List<Long> answers = new ArrayList<>();
        private EdgeBench bench;
        private int calls;

        private Asked(Supplier<EdgeBench> made) {
            this.made = made;
            bench = made.get();
        }

        private void ask(ToLongFunction<EdgeBench> question) {
            if (calls == CALLS_AN_OBJECT) {
                bench = made.get();
                calls = 0;
            }
            calls++;
            answers.add(question.applyAsLong(bench));
        }

        private List<Long> all() {
            for (int each = 0; each <= 4; each++) {
                int what = each;
                ask(x -> x.count(what));
            }
            int works = made.get().count(2);
            for (int work = 0; work < works; work++) {
                numbers(work);
                for (int view = FREE; view <= WHOLE; view++) {
                    held(view, work, works);
                }
            }
            for (int view = FREE; view <= EVEN; view++) {
                sides(view, works);
            }
            return answers;
        }

        private void numbers(int work) {
            ask(x -> x.size(work));
            for (int place = 0; place < 8; place++) {
                int thing = place / 2;
                int what = place % 2;
                ask(x -> x.at(work, thing, what));
            }
        }

        private void held(int view, int work, int works) {
            for (int each = 0; each <= 1; each++) {
                int what = each;
                ask(x -> x.share(view, work, what));
                ask(x -> x.above(view, work, what));
                ask(x -> x.cost(view, work, 2, 3, what));
                ask(x -> x.span(view, work, false, what));
                ask(x -> x.span(view, work, true, what));
            }
            ask(x -> x.strong(view, work));
            for (int each = 0; each < works; each++) {
                int other = each;
                ask(x -> x.peer(view, work, other));
            }
        }

        private void sides(int view, int works) {
            ask(x -> x.sides(view));
            int many = made.get().sides(view);
            for (int each = 0; each < many; each++) {
                int i = each;
                for (int number = 0; number <= 4; number++) {
                    int k = number;
                    ask(x -> x.side(view, i, k));
                }
                for (int number = 0; number < works; number++) {
                    int work = number;
                    ask(x -> x.suits(view, work, i));
                }
            }
        }
    }
}
