/** Promises 16 to 25: a test for each sentence that names an edge. */
public final class LayingEdgesTest extends Sentences {
    private static final long ONE = draw("#");
    private static final long TWO = draw("##");
    private static final long CORNER = draw("##", "#");
    private static final long BLOCK = box(2, 2);
    private static final long L = draw("###", "#");
    private static final long T = draw("###", ".#.");
    private static final long S = draw(".##", "##");
    private static final long P = draw("###", "##");
    private static final long LONG_L = draw("####", "#");

    public static void main(String[] args) {
        testGround();
        testSort();
        testSortRefused();
        testUnsort();
        testFirst();
        testFirstAtSides();
        testFirstSpent();
        testGo();
        testGoMissing();
        testGoSpent();
        testAll();
        testTries();
        testLaid();
        testColour();
        testSquare();
        end();
    }

    private static void testGround() {
        promise(16);
        test("a SET, the empty one too: how many SQUARES", () -> {
            HeapSquares x = new HeapSquares();
            due("ground(0)", x.ground(0), 0);
            due("ground(-1)", x.ground(-1), 64);
            due("ground(the last alone)", x.ground(Long.MIN_VALUE), 1);
            due("ground(all but the last)", x.ground(Long.MAX_VALUE), 63);
        });
        test("it needn't HANG TOGETHER, nor have 8 at most, and isn't moved", () -> {
            HeapSquares x = layings(1L | 1L << 63, ONE);
            due("first()", x.first(), 1);
            due("laid(0, 1)", x.laid(0, 1), 0);
            due("laid(1, 1)", x.laid(1, 1), 63);
        });
        test("the GROUND becomes it: the one ahead is gone", () -> {
            HeapSquares x = new HeapSquares();
            x.ground(-1);
            x.ground(1L << 9);
            due("colour(0, 1, 0)", x.colour(0, 1, 0), 1);
            x.ground(0);
            due("colour(0, 1, 0)", x.colour(0, 1, 0), 0);
        });
    }

    private static void testSort() {
        promise(17);
        test("copies 0: there are none, and no TRY", () -> {
            HeapSquares x = bench(ONE);
            x.ground(1);
            due("sort(0, 0)", x.sort(0, 0), 1);
            due("first()", x.first(), 0);
            due("tries()", x.tries(), 0);
        });
        test("at most as many copies as told: one too few", () -> {
            HeapSquares x = bench(ONE);
            x.ground(-1);
            due("sort(0, 63)", x.sort(0, 63), 1);
            due("first()", x.first(), 0);
            due("tries()", x.tries(), 63);
        });
        test("copies 64, the most that can be told", () -> {
            HeapSquares x = bench(ONE);
            x.ground(-1);
            due("sort(0, 64)", x.sort(0, 64), 1);
            due("first()", x.first(), 1);
            due("laid(-1, 0)", x.laid(-1, 0), 64);
        });
        test("copies -1: any number", () -> {
            HeapSquares x = layings(-1, ONE);
            due("first()", x.first(), 1);
            due("laid(-1, 0)", x.laid(-1, 0), 64);
        });
        test("copies are told for each SORT, alike ones too", () -> {
            HeapSquares x = bench(ONE);
            x.ground(7);
            x.sort(0, 1);
            x.sort(0, 1);
            due("all(), two for three", x.all(), 0);
            x.sort(0, 1);
            due("all(), three for three", x.all(), 6);
        });
        test("copies that were taken back are left again", () -> {
            HeapSquares x = bench(TWO, ONE);
            x.ground(BLOCK);
            x.sort(0, 1);
            x.sort(1, 2);
            due("all()", x.all(), 4);
            due("all() again", x.all(), 4);
        });
        test("SORTS, 4 at most: FULL", () -> {
            HeapSquares x = bench(ONE, TWO);
            for (int i = 1; i <= 4; i++) {
                due("sort(" + i % 2 + ", 1)", x.sort(i % 2, 1), i);
            }
            refused(x, FULL, "sort(0, 1)", () -> x.sort(0, 1));
            refused(x, FULL, "sort(1, -1)", () -> x.sort(1, -1));
            due("unsort()", x.unsort(), 4);
            due("sort(0, 1)", x.sort(0, 1), 1);
        });
    }

    private static void testSortRefused() {
        promise(17);
        test("BEYOND: the HEAP", () -> {
            HeapSquares x = bench(ONE);
            for (int heap : NO_HEAPS) {
                refused(x, BEYOND, "sort(" + heap + ", 1)", () -> x.sort(heap, 1));
            }
            refused(x, BEYOND, "sort(1, 1)", () -> x.sort(1, 1));
            due("unsort()", x.unsort(), 0);
        });
        test("NO: copies", () -> {
            HeapSquares x = bench(ONE);
            for (int copies : new int[] {MIN, -2, 65, 66, MAX}) {
                refused(x, NO, "sort(0, " + copies + ")", () -> x.sort(0, copies));
            }
            due("unsort()", x.unsort(), 0);
        });
        test("of several refusals the first: BEYOND, NO, FULL", () -> {
            HeapSquares x = bench(ONE);
            refused(x, BEYOND, "sort(1, 65)", () -> x.sort(1, 65));
            for (int i = 0; i < 4; i++) {
                x.sort(0, 1);
            }
            refused(x, BEYOND, "sort(1, 65), full", () -> x.sort(1, 65));
            refused(x, BEYOND, "sort(1, 1), full", () -> x.sort(1, 1));
            refused(x, NO, "sort(0, 65), full", () -> x.sort(0, 65));
        });
    }

    private static void testUnsort() {
        promise(18);
        test("how many there were, 0 too", () -> {
            HeapSquares x = bench(ONE);
            due("unsort()", x.unsort(), 0);
            x.sort(0, 1);
            due("unsort()", x.unsort(), 1);
            due("unsort()", x.unsort(), 0);
        });
        test("there are no SORTS any more", () -> {
            HeapSquares x = layings(1, ONE);
            due("first()", x.first(), 1);
            x.unsort();
            due("first()", x.first(), 0);
            due("all()", x.all(), 0);
            due("strip(1, 1)", x.strip(1, 1), 0);
            due("drop()", x.drop(), 0);
        });
    }

    private static void testFirst() {
        promise(19);
        test("of an empty GROUND at once, by no TRY", () -> {
            HeapSquares x = layings(0, ONE, TWO);
            due("first()", x.first(), 1);
            due("tries()", x.tries(), 0);
            due("laid(-1, 0)", x.laid(-1, 0), 0);
        });
        test("of an empty GROUND without SORTS too", () -> {
            HeapSquares x = new HeapSquares();
            due("first()", x.first(), 1);
            due("tries()", x.tries(), 0);
        });
        test("without SORTS there is none on any other", () -> {
            HeapSquares x = new HeapSquares();
            x.ground(1L << 63);
            due("first()", x.first(), 0);
            due("tries()", x.tries(), 0);
        });
        test("on the full one", () -> {
            HeapSquares x = layings(-1, TWO);
            due("first()", x.first(), 1);
            due("laid(-1, 0)", x.laid(-1, 0), 32);
            due("tries()", x.tries(), 32);
        });
        test("TRIES begin anew", () -> {
            HeapSquares x = layings(BLOCK, TWO);
            due("first()", x.first(), 1);
            due("go()", x.go(), 1);
            due("laid(0, 2)", x.laid(0, 2), 1);
            due("first()", x.first(), 1);
            due("tries()", x.tries(), 2);
            due("laid(0, 2)", x.laid(0, 2), 0);
        });
        test("SORT by SORT, as they came; FORM by FORM", () -> {
            HeapSquares x = bench(TWO, ONE);
            x.ground(257);
            x.sort(1, -1);
            x.sort(0, -1);
            due("first()", x.first(), 1);
            due("laid(0, 0)", x.laid(0, 0), 0);
            due("tries()", x.tries(), 2);
            due("go()", x.go(), 1);
            due("laid(0, 0)", x.laid(0, 0), 1);
            due("laid(0, 2)", x.laid(0, 2), 1);
            // The second one with the second sort, two forms; back; the first one with it, two forms.
            due("tries()", x.tries(), 6);
        });
    }

    private static void testFirstAtSides() {
        promise(19);
        test("it is taken, if it lies in the GROUND: not round the right side", () -> {
            HeapSquares x = layings(1L << 7 | 1L << 8, TWO);
            due("first()", x.first(), 0);
            due("tries()", x.tries(), 2);
        });
        test("not below the lowest row", () -> {
            HeapSquares x = layings(1L << 63, TWO);
            due("first()", x.first(), 0);
            due("tries()", x.tries(), 2);
        });
        test("not from the lowest row round to the top", () -> {
            HeapSquares x = layings(1L << 56 | 1L, draw("#", "#"));
            due("first()", x.first(), 0);
        });
        test("not beyond the left side, by a FORM whose least SQUARE isn't its left one", () -> {
            HeapSquares x = layings(1L << 8 | 1L << 9 | 1L << 15 | 1L << 14, S);
            due("first()", x.first(), 0);
            due("ground", x.ground(1L << 16 | 1L << 17 | 1L << 22 | 1L << 23), 4);
            due("first()", x.first(), 0);
        });
        test("in each corner of the GROUND", () -> {
            long[] forms = {CORNER, draw("##", ".#"), draw("#", "##"), draw(".#", "##")};
            for (long form : forms) {
                for (int shift : new int[] {0, 6, 48, 54}) {
                    HeapSquares x = layings(form << shift, CORNER);
                    due("first()", x.first(), 1);
                    due("laid(0, 1)", x.laid(0, 1), Long.numberOfTrailingZeros(form) + shift);
                }
            }
        });
        test("the widest and the highest, at each side", () -> {
            for (int i = 0; i < 8; i++) {
                HeapSquares x = layings(255L << 8 * i, 255);
                due("first()", x.first(), 1);
                due("laid(0, 1)", x.laid(0, 1), 8 * i);
                x.ground(0x0101010101010101L << i);
                due("first()", x.first(), 1);
                due("laid(0, 1)", x.laid(0, 1), i);
                due("laid(0, 2)", x.laid(0, 2), 1);
            }
        });
    }

    private static void testFirstSpent() {
        promise(19);
        test("100000 TRIES in vain: 0, not SPENT", () -> {
            HeapSquares x = layings(35817137800970111L, L);
            due("first()", x.first(), 0);
            due("tries()", x.tries(), 100000);
            due("status(SPENT)", x.status(SPENT), 0);
        });
        test("found by TRY 100000: 1, and SPENT where one more would be made", () -> {
            HeapSquares x = layings(~4L, S, draw("####", ".#"));
            due("first()", x.first(), 1);
            due("tries()", x.tries(), 100000);
            due("laid(-1, 0)", x.laid(-1, 0), 14);
            refused(x, SPENT, "go()", x::go);
            due("tries()", x.tries(), 100000);
        });
        test("SPENT", () -> {
            HeapSquares x = layings(box(8, 7) & ~2L, S, T);
            refused(x, SPENT, "first()", x::first);
            due("tries()", x.tries(), 100000);
            refused(x, SPENT, "first() again", x::first);
            due("tries()", x.tries(), 100000);
        });
        test("behind SPENT all goes on as ever", () -> {
            HeapSquares x = layings(box(8, 7) & ~2L, S, T);
            refused(x, SPENT, "first()", x::first);
            due("ground", x.ground(S), 4);
            due("first()", x.first(), 1);
            due("tries()", x.tries(), 1);
        });
    }

    private static void testGo() {
        promise(20);
        test("behind the last LAYING: 0, then MISSING", () -> {
            HeapSquares x = layings(BLOCK, TWO);
            due("first()", x.first(), 1);
            due("go()", x.go(), 1);
            due("go()", x.go(), 0);
            due("tries()", x.tries(), 6);
            refused(x, MISSING, "go()", x::go);
            refused(x, MISSING, "go() again", x::go);
        });
        test("on an empty GROUND: one alone", () -> {
            HeapSquares x = layings(0, TWO);
            due("first()", x.first(), 1);
            due("go()", x.go(), 0);
            due("tries()", x.tries(), 0);
            refused(x, MISSING, "go()", x::go);
        });
        test("going on behind one: as if it had failed", () -> {
            HeapSquares x = layings(3, ONE, ONE);
            int[][] sorts = {{0, 0}, {0, 1}, {1, 0}, {1, 1}};
            int[] tries = {2, 3, 5, 6};
            for (int i = 0; i < 4; i++) {
                due("laying " + i, i == 0 ? x.first() : x.go(), 1);
                due("laid(0, 0)", x.laid(0, 0), sorts[i][0]);
                due("laid(1, 0)", x.laid(1, 0), sorts[i][1]);
                due("tries()", x.tries(), tries[i]);
            }
            due("go()", x.go(), 0);
            due("tries()", x.tries(), 6);
        });
        test("behind all() and square() it goes on where it was", () -> {
            HeapSquares x = layings(BLOCK, TWO);
            due("first()", x.first(), 1);
            due("all()", x.all(), 2);
            due("square(0)", x.square(0), 2);
            due("strip(2, 2)", x.strip(2, 2), 2);
            due("go()", x.go(), 1);
            due("tries()", x.tries(), 6);
            due("all()", x.all(), 2);
            due("go()", x.go(), 0);
        });
    }

    private static void testGoMissing() {
        promise(20);
        test("MISSING: there was no first()", () -> {
            HeapSquares x = layings(BLOCK, TWO);
            refused(x, MISSING, "go()", x::go);
            due("all()", x.all(), 2);
            refused(x, MISSING, "go() behind all()", x::go);
        });
        test("MISSING: the latest first() found none", () -> {
            HeapSquares x = layings(1, TWO);
            due("first()", x.first(), 0);
            refused(x, MISSING, "go()", x::go);
        });
        test("MISSING: the latest first() was SPENT", () -> {
            HeapSquares x = layings(box(8, 7) & ~2L, S, T);
            refused(x, SPENT, "first()", x::first);
            refused(x, MISSING, "go()", x::go);
            refused(x, MISSING, "laid(-1, 0)", () -> x.laid(-1, 0));
        });
        test("MISSING: ground() came since, with the same SET too", () -> {
            HeapSquares x = layings(BLOCK, TWO);
            x.first();
            x.ground(BLOCK);
            refused(x, MISSING, "go()", x::go);
        });
        test("MISSING: sort() came since, with no copies too", () -> {
            HeapSquares x = layings(BLOCK, TWO);
            x.first();
            due("sort(0, 0)", x.sort(0, 0), 2);
            refused(x, MISSING, "go()", x::go);
        });
        test("MISSING: unsort() came since, of no SORTS too", () -> {
            HeapSquares x = layings(BLOCK, TWO);
            x.first();
            x.unsort();
            refused(x, MISSING, "go()", x::go);
            HeapSquares y = new HeapSquares();
            due("first()", y.first(), 1);
            due("unsort()", y.unsort(), 0);
            refused(y, MISSING, "go()", y::go);
        });
        test("a refused sort() doesn't count, nor do heaps that come and go", () -> {
            HeapSquares x = layings(BLOCK, TWO);
            x.first();
            refused(x, BEYOND, "sort(1, 1)", () -> x.sort(1, 1));
            refused(x, NO, "sort(0, 65)", () -> x.sort(0, 65));
            refused(x, NO, "drop()", x::drop);
            due("heap(1)", x.heap(1), 1);
            due("drop()", x.drop(), 1);
            due("go()", x.go(), 1);
        });
    }

    private static void testGoSpent() {
        promise(20);
        test("100000 TRIES since first(), found by the last of them: 1, then SPENT", () -> {
            HeapSquares x = layings(box(8, 5), BLOCK, draw("####", ".#"), S);
            due("first()", x.first(), 1);
            for (int i = 0; i < 6; i++) {
                due("go() " + i, x.go(), 1);
            }
            due("tries()", x.tries(), 100000);
            refused(x, SPENT, "go()", x::go);
            due("tries()", x.tries(), 100000);
            refused(x, MISSING, "go() behind it", x::go);
        });
        test("100000 TRIES since first(), the last of them in vain: 0", () -> {
            HeapSquares x = layings(17802446961065791L, T, draw("####", ".#"), LONG_L);
            due("first()", x.first(), 1);
            for (int i = 0; i < 14; i++) {
                due("go() " + i, x.go(), 1);
            }
            due("go()", x.go(), 0);
            due("tries()", x.tries(), 100000);
            due("status(SPENT)", x.status(SPENT), 0);
            refused(x, MISSING, "go() behind it", x::go);
        });
        test("SPENT: the LAYING is gone, tries() tells 100000", () -> {
            HeapSquares x = layings(72057594029539327L, T, LONG_L);
            due("first()", x.first(), 1);
            due("go()", x.go(), 1);
            refused(x, SPENT, "go()", x::go);
            due("tries()", x.tries(), 100000);
            refused(x, MISSING, "laid(-1, 0)", () -> x.laid(-1, 0));
            refused(x, MISSING, "go()", x::go);
            due("first(), anew", x.first(), 1);
        });
    }

    private static void testAll() {
        promise(21);
        test("of an empty GROUND: one, by no TRY", () -> {
            HeapSquares x = layings(0, ONE, TWO);
            due("all()", x.all(), 1);
            due("tries()", x.tries(), 0);
            HeapSquares y = new HeapSquares();
            due("all() without SORTS", y.all(), 1);
        });
        test("without SORTS, or without copies: none", () -> {
            HeapSquares x = bench(ONE);
            x.ground(1);
            due("all()", x.all(), 0);
            x.sort(0, 0);
            due("all()", x.all(), 0);
            due("tries()", x.tries(), 0);
        });
        test("100000 TRIES: how many there are", () -> {
            HeapSquares x = bench(T, draw(".##", "##", "#"), L, CORNER);
            x.ground(8224639);
            x.sort(0, -1);
            x.sort(1, -1);
            x.sort(2, 7);
            x.sort(3, -1);
            due("all()", x.all(), 71);
            due("tries()", x.tries(), 100000);
        });
        test("SPENT, and tries() tells 100000", () -> {
            HeapSquares x = layings(-1, ONE, TWO);
            refused(x, SPENT, "all()", x::all);
            due("tries()", x.tries(), 100000);
        });
        test("what first(), go() found stays, behind SPENT too", () -> {
            HeapSquares x = layings(-1, ONE, TWO);
            due("first()", x.first(), 1);
            refused(x, SPENT, "all()", x::all);
            due("laid(-1, 0)", x.laid(-1, 0), 64);
            due("go()", x.go(), 1);
            due("laid(-1, 0)", x.laid(-1, 0), 63);
            // Behind the 64: two in vain for the last square, one for the two last.
            due("tries()", x.tries(), 67);
        });
        test("what first() didn't find stays missing", () -> {
            HeapSquares x = layings(BLOCK, TWO);
            due("all()", x.all(), 2);
            refused(x, MISSING, "laid(-1, 0)", () -> x.laid(-1, 0));
        });
    }

    private static void testTries() {
        promise(22);
        test("0 ahead of any", () -> {
            HeapSquares x = layings(BLOCK, TWO);
            due("tries()", x.tries(), 0);
            x.go();
            due("tries() behind go(), missing", x.tries(), 0);
        });
        test("of the latest first(), or all()", () -> {
            HeapSquares x = layings(BLOCK, TWO);
            x.first();
            due("tries() of first()", x.tries(), 2);
            x.all();
            due("tries() of all()", x.tries(), 6);
            x.first();
            due("tries() of first()", x.tries(), 2);
        });
        test("of go() all since first(), not those of all() between", () -> {
            HeapSquares x = layings(BLOCK, TWO);
            x.first();
            x.all();
            x.all();
            due("go()", x.go(), 1);
            due("tries()", x.tries(), 6);
        });
        test("of a go() that is MISSING nothing is told", () -> {
            HeapSquares x = layings(BLOCK, TWO);
            x.first();
            x.ground(0);
            x.go();
            due("tries()", x.tries(), 2);
            x.all();
            due("tries() of all()", x.tries(), 0);
            x.go();
            due("tries()", x.tries(), 0);
        });
        test("square(), strip(), ground(), sort(), unsort() leave it", () -> {
            HeapSquares x = layings(BLOCK, TWO);
            x.first();
            due("square(0)", x.square(0), 2);
            due("tries() behind square()", x.tries(), 2);
            due("strip(2, 2)", x.strip(2, 2), 2);
            due("tries() behind strip()", x.tries(), 2);
            x.ground(-1);
            x.sort(0, 1);
            x.unsort();
            due("tries()", x.tries(), 2);
        });
    }

    private static void testLaid() {
        promise(23);
        test("i = NONE: how many FORMS, whatever what is", () -> {
            HeapSquares x = layings(BLOCK, TWO);
            x.first();
            for (int what : new int[] {MIN, -1, 0, 1, 2, 3, MAX}) {
                due("laid(-1, " + what + ")", x.laid(-1, what), 2);
            }
        });
        test("BEYOND: i below NONE, or as many as there are", () -> {
            HeapSquares x = layings(BLOCK, TWO);
            x.first();
            for (int i : new int[] {MIN, -2, 2, 3, MAX}) {
                refused(x, BEYOND, "laid(" + i + ", 0)", () -> x.laid(i, 0));
            }
            due("laid(1, 1)", x.laid(1, 1), 8);
        });
        test("BEYOND: of an empty GROUND there is no FORM 0", () -> {
            HeapSquares x = new HeapSquares();
            x.first();
            due("laid(-1, 5)", x.laid(-1, 5), 0);
            refused(x, BEYOND, "laid(0, 0)", () -> x.laid(0, 0));
        });
        test("64 FORMS: 63 is the last", () -> {
            HeapSquares x = layings(-1, ONE);
            x.first();
            for (int i = 0; i < 64; i++) {
                due("laid(" + i + ", 1)", x.laid(i, 1), i);
            }
            refused(x, BEYOND, "laid(64, 1)", () -> x.laid(64, 1));
        });
        test("NO: what", () -> {
            HeapSquares x = layings(BLOCK, TWO);
            x.first();
            for (int what : new int[] {MIN, -1, 3, 4, MAX}) {
                refused(x, NO, "laid(0, " + what + ")", () -> x.laid(0, what));
            }
        });
        test("MISSING as go()", () -> {
            HeapSquares x = layings(BLOCK, TWO);
            refused(x, MISSING, "laid(0, 0) ahead of first()", () -> x.laid(0, 0));
            x.first();
            x.ground(BLOCK);
            refused(x, MISSING, "laid(0, 0) behind ground()", () -> x.laid(0, 0));
            x.first();
            x.sort(0, 1);
            refused(x, MISSING, "laid(0, 0) behind sort()", () -> x.laid(0, 0));
            x.first();
            x.unsort();
            refused(x, MISSING, "laid(0, 0) behind unsort()", () -> x.laid(0, 0));
            x.first();
            refused(x, MISSING, "laid(-1, 0) behind first() that found none", () -> x.laid(-1, 0));
        });
        test("of several refusals the first: MISSING, BEYOND, NO", () -> {
            HeapSquares x = layings(BLOCK, TWO);
            refused(x, MISSING, "laid(2, 3)", () -> x.laid(2, 3));
            refused(x, MISSING, "laid(-2, -1)", () -> x.laid(-2, -1));
            x.first();
            refused(x, BEYOND, "laid(2, 3)", () -> x.laid(2, 3));
            refused(x, BEYOND, "laid(-2, -1)", () -> x.laid(-2, -1));
        });
    }

    private static void testColour() {
        promise(24);
        test("m 1 .. 9, k 0 .. 8, r 0 .. m - 1: each SQUARE has one", () -> {
            for (int m = 1; m <= 9; m++) {
                HeapSquares x = new HeapSquares();
                x.ground(0x8421F00DCAFE1357L);
                for (int k = 0; k <= 8; k++) {
                    int sum = 0;
                    for (int r = 0; r < m; r++) {
                        sum += x.colour(k, m, r);
                    }
                    due("all colours of " + k + ", " + m, sum, Long.bitCount(0x8421F00DCAFE1357L));
                }
            }
        });
        test("x + k y of the last SQUARE, with the greatest k", () -> {
            HeapSquares x = new HeapSquares();
            x.ground(Long.MIN_VALUE);
            for (int r = 0; r < 9; r++) {
                due("colour(8, 9, " + r + ")", x.colour(8, 9, r), r == 0 ? 1 : 0);
                due("colour(7, 9, " + r + ")", x.colour(7, 9, r), r == 2 ? 1 : 0);
            }
        });
        test("of an empty GROUND none", () -> due("colour(1, 2, 0)", new HeapSquares().colour(1, 2, 0), 0));
        test("NO: m", () -> {
            HeapSquares x = new HeapSquares();
            for (int m : new int[] {MIN, -1, 0, 10, MAX}) {
                refused(x, NO, "colour(0, " + m + ", 0)", () -> x.colour(0, m, 0));
            }
        });
        test("NO: k", () -> {
            HeapSquares x = new HeapSquares();
            for (int k : new int[] {MIN, -1, 9, MAX}) {
                refused(x, NO, "colour(" + k + ", 2, 0)", () -> x.colour(k, 2, 0));
            }
        });
        test("NO: r", () -> {
            HeapSquares x = new HeapSquares();
            for (int r : new int[] {MIN, -1, 2, 3, MAX}) {
                refused(x, NO, "colour(0, 2, " + r + ")", () -> x.colour(0, 2, r));
            }
            refused(x, NO, "colour(0, 1, 1)", () -> x.colour(0, 1, 1));
            refused(x, NO, "colour(0, 9, 9)", () -> x.colour(0, 9, 9));
        });
    }

    private static void testSquare() {
        promise(25);
        test("the least k, 1 to 6", () -> {
            HeapSquares x = bench(ONE, TWO, draw("###"), draw("####"), draw("#####"), draw("######"), BLOCK, CORNER);
            int[] want = {1, 2, 3, 4, 5, 6, 2, 6};
            for (int i = 0; i < want.length; i++) {
                due("square(" + i + ")", x.square(i), want[i]);
            }
        });
        test("NONE: there is none, 7 and 8 are too great", () -> {
            HeapSquares x = bench(draw("#######"), draw("########"), S, draw(".#.", "###", ".#."));
            long[] before = refusals(x);
            for (int i = 0; i < 4; i++) {
                due("square(" + i + ")", x.square(i), -1);
            }
            dueEach("refusals", refusals(x), before);
        });
        test("SORTS and their copies, and the GROUND, aside", () -> {
            HeapSquares x = bench(L, ONE);
            x.sort(1, 0);
            x.sort(0, 1);
            x.ground(1);
            due("square(0)", x.square(0), 4);
            due("colour(0, 1, 0)", x.colour(0, 1, 0), 1);
            due("unsort()", x.unsort(), 2);
        });
        test("what first() found stays", () -> {
            HeapSquares x = layings(BLOCK, TWO);
            x.first();
            x.square(0);
            due("laid(1, 1)", x.laid(1, 1), 8);
            due("tries()", x.tries(), 2);
        });
        test("BEYOND", () -> {
            HeapSquares x = bench(ONE);
            for (int heap : NO_HEAPS) {
                refused(x, BEYOND, "square(" + heap + ")", () -> x.square(heap));
            }
            refused(x, BEYOND, "square(1)", () -> x.square(1));
        });
        test("of 8 SQUARES: 4 alone can be", () -> {
            HeapSquares x = bench(draw("####", "####"), draw("####", "#", "#", "##"), draw("###", "#.#", "###"));
            due("square(0)", x.square(0), 4);
            due("square(1)", x.square(1), -1);
            due("square(2)", x.square(2), -1);
        });
        test("it isn't SPENT for any HEAP of a LIST", () -> {
            for (int n = 1; n <= 6; n++) {
                HeapSquares x = new HeapSquares();
                for (int i = 0; i < x.count(n, 2); i++) {
                    x.heap(x.list(n, 2, i));
                    x.square(0);
                    x.drop();
                }
                due("status(SPENT)", x.status(SPENT), 0);
            }
        });
    }
}
