import java.util.ArrayList;
import java.util.List;
import java.util.function.Consumer;
import java.util.function.ToLongFunction;

/**
 * A refused call changes nothing but status(): each call is made in several states, with arguments from all about, and
 * where it is refused a twin that never heard it must answer the same to all that comes.
 */
public final class RefusalsTest extends Sentences {
    private record Call(String told, boolean tellsLong, ToLongFunction<HeapSquares> made) { }

    private static final long TWO = draw("##");
    private static final long L = draw("###", "#");
    private static final long T = draw("###", ".#.");
    private static final long S = draw(".##", "##");
    private static final int[] INTS = {MIN, -9, -8, -2, -1, 0, 1, 2, 3, 4, 5, 8, 9, 11, 12, 64, 65, MAX};
    private static final int[] FEW = {MIN, -1, 0, 1, 3, 8, MAX};
    private static final long[] SETS = {0, 1, 5, 513, 511, -1, 1L << 63 | 1, 0x80818181818181L};

    private static final List<Call> CALLS = new ArrayList<>();
    private static int refusedCalls = 0;

    public static void main(String[] args) {
        listHeapCalls();
        listOtherCalls();
        inState("a new object", x -> { });
        inState("twelve heaps", RefusalsTest::fill);
        inState("a laying that was found, and four sorts", RefusalsTest::find);
        inState("a laying that was found, of an empty ground", HeapSquares::first);
        inState("first() that was SPENT", RefusalsTest::spend);
        inState("first() that found none, and a row that was torn", RefusalsTest::tearAll);
        promise(31);
        test("many calls were refused", () -> due("more than 2000 of them", refusedCalls > 2000 ? 1 : 0, 1));
        end();
    }

    // ---- the calls

    private static void add(String told, ToLongFunction<HeapSquares> made) {
        CALLS.add(new Call(told, false, made));
    }

    private static void addLong(String told, ToLongFunction<HeapSquares> made) {
        CALLS.add(new Call(told, true, made));
    }

    private static void listHeapCalls() {
        for (long set : SETS) {
            add("heap(" + set + ")", x -> x.heap(set));
        }
        add("drop()", HeapSquares::drop);
        for (int a : INTS) {
            addLong("set(" + a + ")", x -> x.set(a));
            addLong("code(" + a + ")", x -> x.code(a));
            addLong("cuts(" + a + ")", x -> x.cuts(a));
            for (int b : INTS) {
                add("look(" + a + ", " + b + ")", x -> x.look(a, b));
                addLong("form(" + a + ", " + b + ", true)", x -> x.form(a, b, true));
                addLong("form(" + a + ", " + b + ", false)", x -> x.form(a, b, false));
                add("same(" + a + ", " + b + ")", x -> x.same(a, b));
                add("turn(" + a + ", " + b + ", true)", x -> x.turn(a, b, true));
                add("grow(" + a + ", " + b + ")", x -> x.grow(a, b));
                add("grow(" + a + ", 16 and " + b + ")", x -> x.grow(a, 16 + b));
            }
        }
        for (int a : FEW) {
            for (int b : FEW) {
                for (int move : FEW) {
                    add("put(" + a + ", " + b + ", " + move + ", 0)", x -> x.put(a, b, move, 0));
                    add("put(" + a + ", " + b + ", 1, " + move + ")", x -> x.put(a, b, 1, move));
                }
            }
        }
    }

    private static void listOtherCalls() {
        for (int a : INTS) {
            add("square(" + a + ")", x -> x.square(a));
            add("lay(" + a + ")", x -> x.lay(a));
            add("row(" + a + ")", x -> x.row(a));
            add("status(" + a + ")", x -> x.status(a));
            for (int b : INTS) {
                add("count(" + a + ", " + b + ")", x -> x.count(a, b));
                addLong("list(" + a + ", 0, " + b + ")", x -> x.list(a, 0, b));
                add("rank(" + a + ", " + b + ")", x -> x.rank(a, b));
                add("sort(" + a + ", " + b + ")", x -> x.sort(a, b));
                add("laid(" + a + ", " + b + ")", x -> x.laid(a, b));
                addLong("strip(" + a + ", " + b + ")", x -> x.strip(a, b));
            }
        }
        for (int a : FEW) {
            for (int b : FEW) {
                for (int c : FEW) {
                    add("colour(" + a + ", " + b + ", " + c + ")", x -> x.colour(a, b, c));
                    add("copy(" + a + ", " + b + ", " + c + ")", x -> x.copy(a, b, c));
                }
            }
        }
        add("go()", HeapSquares::go);
    }

    // ---- the states

    private static void fill(HeapSquares x) {
        for (int i = 0; i < 12; i++) {
            x.heap(i % 2 == 0 ? TWO : 255);
        }
        x.sort(0, 3);
        x.lay(0);
    }

    private static void find(HeapSquares x) {
        x.heap(L);
        x.heap(TWO);
        x.heap(1);
        x.heap(31);
        x.sort(0, 2);
        x.sort(1, -1);
        x.sort(2, 1);
        x.sort(3, 0);
        x.ground(box(4, 4));
        x.lay(0);
        x.first();
        x.go();
    }

    private static void spend(HeapSquares x) {
        x.heap(S);
        x.heap(T);
        x.sort(0, -1);
        x.sort(1, -1);
        x.ground(box(8, 7) & ~2L);
        x.first();
    }

    private static void tearAll(HeapSquares x) {
        x.heap(TWO);
        x.heap(TWO);
        x.sort(0, -1);
        x.ground(7);
        x.lay(0);
        x.tear();
        x.first();
    }

    private static void inState(String state, Consumer<HeapSquares> made) {
        promise(31);
        test("a refused call changes nothing but status(), behind " + state, () -> {
            HeapSquares twin = new HeapSquares();
            made.accept(twin);
            long[] before = refusals(twin);
            long[] want = answers(twin);
            for (Call call : CALLS) {
                HeapSquares x = new HeapSquares();
                made.accept(x);
                lookAt(call, x, before, want);
            }
        });
    }

    private static void lookAt(Call call, HeapSquares x, long[] before, long[] want) {
        long answer = call.made().applyAsLong(x);
        long[] behind = refusals(x);
        int by = 0;
        int refusals = 0;
        for (int i = 0; i < before.length; i++) {
            refusals += (int) (behind[i] - before[i]);
            by = behind[i] > before[i] ? MISSING - i : by;
        }
        boolean refused = call.tellsLong() ? refusals > 0 : answer <= MISSING && answer >= SPENT;
        due("refusals counted behind " + call.told(), refusals, refused ? 1 : 0);
        if (refused) {
            refusedCalls++;
            due(call.told(), answer, call.tellsLong() ? 0 : by);
            dueEach("all that comes behind " + call.told(), answers(x), want);
        }
    }

    /** What an object answers to calls that look at all that it holds, and use it up. */
    private static long[] answers(HeapSquares x) {
        List<Long> answers = new ArrayList<>();
        for (int i = 0; i < 12; i++) {
            answers.add(x.set(i));
        }
        for (int i = 0; i < 8; i++) {
            answers.add((long) x.row(i));
        }
        answers.add((long) x.tries());
        for (int round = 0; round < 3; round++) {
            answers.add((long) x.laid(-1, 0));
            for (int i = 0; i < 3; i++) {
                answers.add((long) x.laid(i, 0));
                answers.add((long) x.laid(i, 1));
                answers.add((long) x.laid(i, 2));
            }
            answers.add((long) x.go());
            answers.add((long) x.tries());
        }
        for (int r = 0; r < 9; r++) {
            answers.add((long) x.colour(8, 9, r));
        }
        answers.add((long) x.count(3, 1));
        answers.add(x.strip(2, 2));
        answers.add((long) x.copy(0, 1, 1));
        answers.add((long) x.row(1));
        answers.add((long) x.tear());
        addLayings(x, answers);
        return answers.stream().mapToLong(Long::longValue).toArray();
    }

    private static void addLayings(HeapSquares x, List<Long> answers) {
        // A smaller ground, so that this doesn't take long; it shows the sorts and their copies.
        x.ground(box(3, 2));
        answers.add((long) x.all());
        answers.add((long) x.tries());
        answers.add((long) x.unsort());
        for (int i = 0; i < 13; i++) {
            answers.add((long) x.drop());
        }
    }
}
