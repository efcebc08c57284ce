import java.util.function.LongSupplier;

/** Tests that each bear the sentence of the document that they look at; the edge tests are made of them. */
abstract class Sentences {
    static final int MIN = Integer.MIN_VALUE;
    static final int MAX = Integer.MAX_VALUE;

    static final int MISSING = -2;
    static final int BEYOND = -3;
    static final int BELOW = -4;
    static final int COPY = -5;
    static final int NO = -6;
    static final int FULL = -7;
    static final int SPENT = -8;

    /** No numbers of heaps, however many there are. */
    static final int[] NO_HEAPS = {MIN, -2, -1, 12, MAX};

    private static int promise = 0;
    private static String sentence = "";
    private static boolean holds = true;
    private static int tests = 0;
    private static int broken = 0;

    static void promise(int number) {
        promise = number;
    }

    static void test(String told, Runnable calls) {
        sentence = told;
        holds = true;
        tests++;
        calls.run();
        if (!holds) {
            broken++;
        }
    }

    static void due(String call, long got, long want) {
        if (got != want) {
            holds = false;
            System.out.println("promise " + promise + ", " + sentence + ": " + call + " answered " + got
                + ", due is " + want);
        }
    }

    static void dueEach(String call, long[] got, long... want) {
        due(call + ", how many", got.length, want.length);
        for (int i = 0; i < got.length && i < want.length; i++) {
            due(call + ", number " + i, got[i], want[i]);
        }
    }

    /** A call that tells an int is refused, and status() counts this one, and no other. */
    static void refused(HeapSquares x, int by, String call, LongSupplier made) {
        refused(x, by, call, made, by);
    }

    /** A call that tells a long is refused: it tells 0, and status() counts this one, and no other. */
    static void untold(HeapSquares x, int by, String call, LongSupplier made) {
        refused(x, by, call, made, 0);
    }

    private static void refused(HeapSquares x, int by, String call, LongSupplier made, long want) {
        long[] before = refusals(x);
        due(call, made.getAsLong(), want);
        long[] behind = refusals(x);
        for (int i = 0; i < before.length; i++) {
            int code = MISSING - i;
            due("behind " + call + " status(" + code + ")", behind[i], before[i] + (code == by ? 1 : 0));
        }
    }

    /** How many calls were refused by each answer, from MISSING down to SPENT. */
    static long[] refusals(HeapSquares x) {
        long[] refusals = new long[MISSING - SPENT + 1];
        for (int i = 0; i < refusals.length; i++) {
            refusals[i] = x.status(MISSING - i);
        }
        return refusals;
    }

    /** A set drawn by its rows. */
    static long draw(String... rows) {
        long set = 0;
        for (int y = 0; y < rows.length; y++) {
            for (int x = 0; x < rows[y].length(); x++) {
                if (rows[y].charAt(x) == '#') {
                    set |= 1L << 8 * y + x;
                }
            }
        }
        return set;
    }

    static long box(int wide, int high) {
        long box = 0;
        for (int y = 0; y < high; y++) {
            box |= (1L << wide) - 1 << 8 * y;
        }
        return box;
    }

    /** A bench with these heaps. */
    static HeapSquares bench(long... sets) {
        HeapSquares x = new HeapSquares();
        for (int i = 0; i < sets.length; i++) {
            due("heap(" + sets[i] + ")", x.heap(sets[i]), i);
        }
        return x;
    }

    /** A bench with twelve heaps, which has no room for more. */
    static HeapSquares full(long... sets) {
        HeapSquares x = bench(sets);
        for (int i = sets.length; i < 12; i++) {
            due("heap(1)", x.heap(1), i);
        }
        return x;
    }

    /** A bench with a ground and with these heaps as sorts, any number of copies each. */
    static HeapSquares layings(long ground, long... sets) {
        HeapSquares x = bench(sets);
        due("ground(" + ground + ")", x.ground(ground), Long.bitCount(ground));
        for (int i = 0; i < sets.length; i++) {
            due("sort(" + i + ", -1)", x.sort(i, -1), i + 1);
        }
        return x;
    }

    /** Tells how it went, and ends the run with 1 if a sentence doesn't hold. */
    static void end() {
        System.out.println(broken == 0 ? tests + " sentences hold" : broken + " of " + tests + " sentences don't hold");
        if (broken != 0) {
            System.exit(1);
        }
    }
}
