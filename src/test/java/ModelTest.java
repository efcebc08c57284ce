import java.util.ArrayList;
import java.util.List;
import java.util.Random;

/** Random runs of calls, told alike by HeapSquares and by PlainBench; the seeds are fixed. */
public final class ModelTest {
    private static final int CALLS = 250;
    private static final int[] ODD = {Integer.MIN_VALUE, -9, -8, -2, -1, 13, 64, 65, Integer.MAX_VALUE};

    private static int wrong = 0;

    private final Random random;
    private final int run;
    private final HeapSquares bench = new HeapSquares();
    private final PlainBench plain = new PlainBench();
    private final List<String> calls = new ArrayList<>();
    private boolean differs = false;

    private ModelTest(int run) {
        this.run = run;
        random = new Random(run);
    }

    public static void main(String[] args) {
        int runs = args.length > 0 ? Integer.parseInt(args[0]) : 800;
        for (int run = 0; run < runs && wrong < 3; run++) {
            new ModelTest(run).play();
        }
        compareAllListed();
        System.out.println(wrong == 0 ? runs + " runs are alike" : wrong + " answers differ");
        if (wrong != 0) {
            System.exit(1);
        }
    }

    /** Every heap that is listed, and some greater ones, looked at from all sides. */
    private static void compareAllListed() {
        for (int n = 1; n <= 6; n++) {
            for (long set : PlainBench.listed(n, 0)) {
                new ModelTest(-1).lookAt(set);
            }
        }
        Random random = new Random(5);
        for (int i = 0; i < 500; i++) {
            new ModelTest(-1).lookAt(someHeap(random, 7 + i % 2));
        }
    }

    private void lookAt(long set) {
        due("heap(" + set + ")", bench.heap(set), plain.heap(set));
        for (int what = -1; what <= 8; what++) {
            due("look(0, " + what + ")", bench.look(0, what), plain.look(0, what));
        }
        for (int i = -1; i <= 8; i++) {
            due("form(0, " + i + ", true)", bench.form(0, i, true), plain.form(0, i, true));
            due("form(0, " + i + ", false)", bench.form(0, i, false), plain.form(0, i, false));
        }
        for (int how = -1; how <= 3; how++) {
            due("rank(0, " + how + ")", bench.rank(0, how), plain.rank(0, how));
        }
        due("code(0)", bench.code(0), plain.code(0));
        due("cuts(0)", bench.cuts(0), plain.cuts(0));
    }

    private void due(String call, long got, long want) {
        calls.add(call + " = " + got);
        if (got != want && !differs) {
            differs = true;
            wrong++;
            System.out.println("run " + run + ": " + String.join("; ", calls) + ", due is " + want);
        }
    }

    private void play() {
        // Some runs are made of calls of one sort above all, so that they come to states that mixed ones don't.
        int most = run % 5;
        int heaps = random.nextInt(4) == 0 ? random.nextInt(13) : 1 + random.nextInt(4);
        for (int i = 0; i < heaps; i++) {
            callHeap();
        }
        for (int i = 0; i < CALLS && !differs; i++) {
            int chosen = random.nextInt(8) == 0 ? random.nextInt(4) : most;
            switch (chosen) {
                case 0 -> callHeaps();
                case 1 -> callLists();
                case 2, 4 -> callLayings();
                default -> callRows();
            }
        }
        for (int by = -9; by <= 0; by++) {
            due("status(" + by + ")", bench.status(by), plain.status(by));
        }
    }

    private int below(int bound) {
        return random.nextInt(12) == 0 ? ODD[random.nextInt(ODD.length)] : random.nextInt(bound);
    }

    private int someIndex() {
        return random.nextInt(6) == 0 ? below(12) : random.nextInt(Math.max(1, plain.heapCount()));
    }

    static long someHeap(Random random, int squares) {
        long set = 1L << random.nextInt(64);
        for (int i = 0; i < 1000 && Long.bitCount(set) < squares; i++) {
            long more = set | 1L << random.nextInt(64);
            if (PlainBench.hangs(PlainBench.squares(more))) {
                set = more;
            }
        }
        return set;
    }

    private long someGround() {
        return switch (random.nextInt(6)) {
            case 0 -> 0L;
            case 1 -> random.nextLong();
            case 2 -> -1L;
            case 3 -> someHeap(random, 1 + random.nextInt(30));
            default -> {
                long row = (1L << 1 + random.nextInt(5)) - 1;
                long ground = 0;
                for (int y = random.nextInt(5); y >= 0; y--) {
                    ground |= row << 8 * y;
                }
                yield ground << 9 * random.nextInt(3);
            }
        };
    }

    private void callHeap() {
        long set = random.nextInt(9) == 0 ? random.nextLong() & random.nextLong()
            : someHeap(random, 1 + random.nextInt(random.nextInt(4) == 0 ? 10 : 4));
        due("heap(" + set + ")", bench.heap(set), plain.heap(set));
    }

    private void callHeaps() {
        int a = someIndex();
        int b = someIndex();
        switch (random.nextInt(16)) {
            case 0, 1 -> callHeap();
            case 2, 3, 4 -> due("drop()", bench.drop(), plain.drop());
            case 5 -> due("set(" + a + ")", bench.set(a), plain.set(a));
            case 6, 7 -> {
                int what = below(8);
                due("look(" + a + ", " + what + ")", bench.look(a, what), plain.look(a, what));
            }
            case 8 -> due("code(" + a + ")", bench.code(a), plain.code(a));
            case 9 -> {
                int i = below(8);
                boolean mirrors = random.nextBoolean();
                due("form(" + a + ", " + i + ", " + mirrors + ")", bench.form(a, i, mirrors), plain.form(a, i, mirrors));
            }
            case 10 -> due("cuts(" + a + ")", bench.cuts(a), plain.cuts(a));
            case 11 -> due("same(" + a + ", " + b + ")", bench.same(a, b), plain.same(a, b));
            case 12 -> {
                int times = below(4);
                boolean mirrored = random.nextBoolean();
                due("turn(" + a + ", " + times + ", " + mirrored + ")",
                    bench.turn(a, times, mirrored), plain.turn(a, times, mirrored));
            }
            case 13, 14 -> {
                int square = random.nextInt(3) == 0 ? below(170) : 16 * random.nextInt(5) + random.nextInt(5);
                due("grow(" + a + ", " + square + ")", bench.grow(a, square), plain.grow(a, square));
            }
            default -> {
                int x = random.nextInt(4) == 0 ? below(9) : random.nextInt(7) - 3;
                int y = random.nextInt(4) == 0 ? below(9) : random.nextInt(7) - 3;
                due("put(" + a + ", " + b + ", " + x + ", " + y + ")", bench.put(a, b, x, y), plain.put(a, b, x, y));
            }
        }
    }

    private void callLists() {
        int n = 1 + below(7);
        int how = below(4);
        switch (random.nextInt(3)) {
            case 0 -> due("count(" + n + ", " + how + ")", bench.count(n, how), plain.count(n, how));
            case 1 -> {
                int i = below(random.nextBoolean() ? 20 : 220);
                due("list(" + n + ", " + how + ", " + i + ")", bench.list(n, how, i), plain.list(n, how, i));
            }
            default -> {
                int a = someIndex();
                due("rank(" + a + ", " + how + ")", bench.rank(a, how), plain.rank(a, how));
            }
        }
    }

    private void callLayings() {
        int a = someIndex();
        switch (random.nextInt(24)) {
            case 0 -> {
                long set = someGround();
                due("ground(" + set + ")", bench.ground(set), plain.ground(set));
            }
            case 1, 2 -> {
                int copies = random.nextBoolean() ? -1 : below(10);
                due("sort(" + a + ", " + copies + ")", bench.sort(a, copies), plain.sort(a, copies));
            }
            case 3 -> {
                if (random.nextInt(3) == 0) {
                    due("unsort()", bench.unsort(), plain.unsort());
                }
            }
            case 4, 5, 6 -> due("first()", bench.first(), plain.first());
            case 7, 8, 9, 10, 11, 12 -> due("go()", bench.go(), plain.go());
            case 13 -> due("all()", bench.all(), plain.all());
            case 14, 15 -> due("tries()", bench.tries(), plain.tries());
            case 16, 17, 18 -> {
                int i = random.nextInt(random.nextInt(8) == 0 ? 70 : 6) - (random.nextInt(4) == 0 ? 2 : 0);
                int what = below(3);
                due("laid(" + i + ", " + what + ")", bench.laid(i, what), plain.laid(i, what));
            }
            case 19, 20 -> {
                int k = below(10);
                int m = below(11);
                int r = below(random.nextBoolean() ? 2 : 9);
                due("colour(" + k + ", " + m + ", " + r + ")", bench.colour(k, m, r), plain.colour(k, m, r));
            }
            case 21 -> due("square(" + a + ")", bench.square(a), plain.square(a));
            default -> {
                int w = 1 + below(4);
                int n = below(random.nextInt(4) == 0 ? 22 : 7);
                due("strip(" + w + ", " + n + ")", bench.strip(w, n), plain.strip(w, n));
            }
        }
    }

    private void callRows() {
        int i = random.nextInt(6) == 0 ? below(6) - 1 : random.nextInt(4);
        switch (random.nextInt(8)) {
            case 0, 1 -> {
                int a = someIndex();
                due("lay(" + a + ")", bench.lay(a), plain.lay(a));
            }
            case 2 -> {
                if (random.nextInt(4) == 0) {
                    due("tear()", bench.tear(), plain.tear());
                }
            }
            case 3, 4 -> due("row(" + i + ")", bench.row(i), plain.row(i));
            case 5, 6 -> {
                int j = below(4);
                int n = below(4);
                due("copy(" + i + ", " + j + ", " + n + ")", bench.copy(i, j, n), plain.copy(i, j, n));
            }
            default -> {
                int by = -below(10);
                due("status(" + by + ")", bench.status(by), plain.status(by));
            }
        }
    }
}
