/** Promises 13 to 15: a test for each sentence that names an edge. */
public final class ListEdgesTest extends Sentences {
    private static final int[][] COUNTS = {{1, 2, 6, 19, 63, 216}, {1, 1, 2, 7, 18, 60}, {1, 1, 2, 5, 12, 35}};
    private static final int[][] NO_LISTS =
        {{0, 0}, {-1, 1}, {7, 2}, {8, 0}, {MIN, 0}, {MAX, 0}, {1, -1}, {6, 3}, {1, 4}, {3, MIN}, {3, MAX}};
    private static final long ROW7 = 127;
    private static final long ROW8 = 255;

    public static void main(String[] args) {
        testCount();
        testList();
        testRank();
        testRankOfAll();
        end();
    }

    private static void testCount() {
        promise(13);
        test("n 1 .. 6, how 0 .. 2, in whatever order they are asked for", () -> {
            for (int first = 1; first <= 6; first++) {
                HeapSquares x = new HeapSquares();
                for (int i = 0; i < 6; i++) {
                    int n = (first + 5 * i) % 6;
                    for (int how = 0; how < 3; how++) {
                        due("count(" + (n + 1) + ", " + how + ")", x.count(n + 1, how), COUNTS[how][n]);
                    }
                }
            }
        });
        test("NO: n, how", () -> {
            HeapSquares x = new HeapSquares();
            for (int[] no : NO_LISTS) {
                refused(x, NO, "count(" + no[0] + ", " + no[1] + ")", () -> x.count(no[0], no[1]));
            }
            refused(x, NO, "count(0, 3)", () -> x.count(0, 3));
        });
    }

    private static void testList() {
        promise(14);
        test("HEAP i, from 0: the row is the first, the column the last by steps", () -> {
            HeapSquares x = new HeapSquares();
            long column = 0;
            for (int n = 1; n <= 6; n++) {
                column |= 1L << 8 * (n - 1);
                for (int how = 0; how < 3; how++) {
                    due("list(" + n + ", " + how + ", 0)", x.list(n, how, 0), (1L << n) - 1);
                }
                due("list(" + n + ", 0, the last)", x.list(n, 0, COUNTS[0][n - 1] - 1), column);
            }
        });
        test("by numbers, each once, and none is 0", () -> {
            for (int n = 1; n <= 6; n++) {
                for (int how = 0; how < 3; how++) {
                    HeapSquares x = new HeapSquares();
                    long last = 0;
                    for (int i = 0; i < COUNTS[how][n - 1]; i++) {
                        long set = x.list(n, how, i);
                        due("list(" + n + ", " + how + ", " + i + "), after the one ahead", set > last ? 1 : 0, 1);
                        due("SQUARES of it", Long.bitCount(set), n);
                        last = set;
                    }
                }
            }
        });
        test("BEYOND: i below 0, or as many as the LIST has", () -> {
            for (int n = 1; n <= 6; n++) {
                HeapSquares x = new HeapSquares();
                int of = n;
                for (int how = 0; how < 3; how++) {
                    int by = how;
                    int many = COUNTS[how][n - 1];
                    for (int i : new int[] {MIN, -1, many, many + 1, MAX}) {
                        untold(x, BEYOND, "list(" + n + ", " + how + ", " + i + ")", () -> x.list(of, by, i));
                    }
                }
            }
        });
        test("NO: n, how", () -> {
            HeapSquares x = new HeapSquares();
            for (int[] no : NO_LISTS) {
                untold(x, NO, "list(" + no[0] + ", " + no[1] + ", 0)", () -> x.list(no[0], no[1], 0));
            }
        });
        test("of several refusals the first: NO, BEYOND", () -> {
            HeapSquares x = new HeapSquares();
            untold(x, NO, "list(0, 0, -1)", () -> x.list(0, 0, -1));
            untold(x, NO, "list(7, 0, 1000)", () -> x.list(7, 0, 1000));
            untold(x, NO, "list(1, 3, 1)", () -> x.list(1, 3, 1));
        });
    }

    private static void testRank() {
        promise(15);
        test("how 1, 2: where that with the same least FORM stands", () -> {
            // By turns: the line, L, T, the block, S, J, Z; by codes only the first five.
            long[] sets = {draw("#", "#", "#", "#"), draw(".#", ".#", "##"), draw("..#", "###"), draw("#", "##", ".#"),
                draw(".#", "##", "#")};
            int[] byTurns = {0, 5, 1, 4, 6};
            int[] byCodes = {0, 1, 1, 4, 4};
            HeapSquares x = bench(sets);
            for (int i = 0; i < sets.length; i++) {
                due("rank(" + i + ", 1)", x.rank(i, 1), byTurns[i]);
                due("rank(" + i + ", 2)", x.rank(i, 2), byCodes[i]);
            }
        });
        test("NO: how", () -> {
            HeapSquares x = bench(7);
            for (int how : new int[] {MIN, -1, 3, 4, MAX}) {
                refused(x, NO, "rank(0, " + how + ")", () -> x.rank(0, how));
            }
        });
        test("NO: it has more than 6 SQUARES", () -> {
            HeapSquares x = bench(ROW7, ROW8, draw("###", "#.#", "##."), 63);
            for (int how = 0; how < 3; how++) {
                int by = how;
                refused(x, NO, "rank of 7", () -> x.rank(0, by));
                refused(x, NO, "rank of 8", () -> x.rank(1, by));
                refused(x, NO, "rank of 7, open", () -> x.rank(2, by));
                due("rank of 6", x.rank(3, by), 0);
            }
        });
        test("BEYOND, ahead of NO", () -> {
            HeapSquares x = bench(7);
            for (int heap : NO_HEAPS) {
                refused(x, BEYOND, "rank(" + heap + ", 0)", () -> x.rank(heap, 0));
            }
            refused(x, BEYOND, "rank(1, 0)", () -> x.rank(1, 0));
            refused(x, BEYOND, "rank(1, 3)", () -> x.rank(1, 3));
            refused(x, BEYOND, "rank(-1, -1)", () -> x.rank(-1, -1));
        });
    }

    private static void testRankOfAll() {
        promise(15);
        test("the first and the last stand in the LIST where it says", () -> {
            for (int n = 1; n <= 6; n++) {
                HeapSquares x = new HeapSquares();
                for (int how = 0; how < 3; how++) {
                    int last = COUNTS[how][n - 1] - 1;
                    x.heap(x.list(n, how, 0));
                    due("rank of the first of " + n + ", " + how, x.rank(0, how), 0);
                    x.drop();
                    x.heap(x.list(n, how, last));
                    due("rank of the last of " + n + ", " + how, x.rank(0, how), last);
                    x.drop();
                }
            }
        });
        test("each stands in the LIST where it says", () -> {
            for (int how = 0; how < 3; how++) {
                HeapSquares lists = new HeapSquares();
                HeapSquares ranks = new HeapSquares();
                for (int i = how == 0 ? 100 : 0; i < COUNTS[how][5]; i++) {
                    ranks.heap(lists.list(6, how, i));
                    due("rank of list(6, " + how + ", " + i + ")", ranks.rank(0, how), i);
                    ranks.drop();
                }
            }
        });
    }
}
