/** Promises 26 to 31: a test for each sentence that names an edge. */
public final class StripRowEdgesTest extends Sentences {
    private static final long ONE = draw("#");
    private static final long TWO = draw("##");
    private static final long CORNER = draw("##", "#");
    private static final long L = draw("###", "#");
    private static final long ROW8 = draw("########");
    private static final long COLUMN8 = draw("#", "#", "#", "#", "#", "#", "#", "#");

    public static void main(String[] args) {
        testStrip();
        testStripSorts();
        testStripFull();
        testLay();
        testTear();
        testRow();
        testCopy();
        testCopyRefused();
        testStatus();
        end();
    }

    private static void testStrip() {
        promise(26);
        test("n 0: one LAYING, with SORTS and without", () -> {
            HeapSquares x = layings(0, TWO);
            HeapSquares y = new HeapSquares();
            for (int w = 1; w <= 4; w++) {
                due("strip(" + w + ", 0)", x.strip(w, 0), 1);
                due("strip(" + w + ", 0) without SORTS", y.strip(w, 0), 1);
            }
        });
        test("w 1 .. 4, n up to 20", () -> {
            HeapSquares x = layings(0, TWO);
            long[] want = {1, 10946, 413403, 616891945L};
            for (int w = 1; w <= 4; w++) {
                due("strip(" + w + ", 20)", x.strip(w, 20), want[w - 1]);
            }
        });
        test("without SORTS there is none of one column or more", () -> {
            HeapSquares x = new HeapSquares();
            long[] before = refusals(x);
            due("strip(1, 1)", x.strip(1, 1), 0);
            due("strip(4, 20)", x.strip(4, 20), 0);
            dueEach("refusals", refusals(x), before);
        });
        test("NO: w", () -> {
            HeapSquares x = layings(0, ONE);
            for (int w : new int[] {MIN, -1, 0, 5, MAX}) {
                untold(x, NO, "strip(" + w + ", 1)", () -> x.strip(w, 1));
                untold(x, NO, "strip(" + w + ", 0)", () -> x.strip(w, 0));
            }
        });
        test("NO: n", () -> {
            HeapSquares x = layings(0, ONE);
            for (int n : new int[] {MIN, -1, 21, 22, MAX}) {
                untold(x, NO, "strip(1, " + n + ")", () -> x.strip(1, n));
            }
            due("strip(1, 20)", x.strip(1, 20), 1);
        });
        test("the GROUND, the LAYING and tries() stay", () -> {
            HeapSquares x = layings(box(2, 2), TWO);
            x.first();
            due("strip(4, 4)", x.strip(4, 4), 36);
            due("colour(0, 1, 0)", x.colour(0, 1, 0), 4);
            due("tries()", x.tries(), 2);
            due("go()", x.go(), 1);
        });
    }

    private static void testStripSorts() {
        promise(26);
        test("SORTS as WIDE and as HIGH as 4", () -> {
            HeapSquares x = layings(0, draw("####"));
            due("strip(1, 4)", x.strip(1, 4), 1);
            due("strip(4, 1)", x.strip(4, 1), 1);
            due("strip(4, 4)", x.strip(4, 4), 2);
            due("strip(4, 3)", x.strip(4, 3), 1);
            HeapSquares y = layings(0, draw("#", "#", "#", "#"), draw("####", "...#", "...#", "...#"));
            due("strip(4, 4)", y.strip(4, 4), 2);
            due("strip(3, 8)", y.strip(3, 8), 1);
        });
        test("NO: a SORT that is too WIDE", () -> {
            HeapSquares x = layings(0, draw("#####"));
            untold(x, NO, "strip(1, 5)", () -> x.strip(1, 5));
            untold(x, NO, "strip(4, 20)", () -> x.strip(4, 20));
            untold(x, NO, "strip(1, 0)", () -> x.strip(1, 0));
        });
        test("NO: a SORT that is too HIGH", () -> {
            HeapSquares x = layings(0, draw("#", "#", "#", "#", "#"));
            untold(x, NO, "strip(1, 5)", () -> x.strip(1, 5));
            untold(x, NO, "strip(1, 0)", () -> x.strip(1, 0));
            HeapSquares y = layings(0, draw("##", ".#", ".#", ".#", ".#"));
            untold(y, NO, "strip(4, 1)", () -> y.strip(4, 1));
        });
        test("NO: the last of four SORTS is too great, with no copies too", () -> {
            HeapSquares x = bench(ONE, draw("#####"));
            x.sort(0, 1);
            x.sort(0, 1);
            x.sort(0, 1);
            due("strip(1, 1)", x.strip(1, 1), 3);
            x.sort(1, 0);
            untold(x, NO, "strip(1, 1)", () -> x.strip(1, 1));
            x.unsort();
            due("strip(1, 1) behind unsort()", x.strip(1, 1), 0);
        });
        test("any number of copies of each; those of no copies too", () -> {
            HeapSquares x = bench(ONE, TWO);
            x.sort(0, 1);
            due("strip(4, 20), one copy", x.strip(4, 20), 1);
            x.unsort();
            x.sort(1, 0);
            due("strip(2, 10), no copies", x.strip(2, 10), 89);
            x.sort(0, 0);
            due("strip(1, 10), no copies", x.strip(1, 10), 89);
        });
        test("a FORM doesn't reach beyond the last row or column", () -> {
            HeapSquares x = layings(0, box(2, 2));
            due("strip(1, 2)", x.strip(1, 2), 0);
            due("strip(2, 1)", x.strip(2, 1), 0);
            due("strip(3, 4)", x.strip(3, 4), 0);
            due("strip(2, 3)", x.strip(2, 3), 0);
            due("strip(4, 20)", x.strip(4, 20), 1);
        });
    }

    private static void testStripFull() {
        promise(26);
        test("just below 10^15: how many there are", () -> {
            HeapSquares x = layings(0, CORNER, draw("#.#", "###"), CORNER, draw("###", "##"));
            due("strip(4, 20)", x.strip(4, 20), 999922337730944L);
            HeapSquares y = layings(0, ONE, L, draw(".#.#", "####", ".#"), draw("..#", "..#", "####", "#"));
            due("strip(4, 18)", y.strip(4, 18), 999993469497435L);
        });
        test("just above 10^15: FULL, 0 likewise", () -> {
            // There are 1000029842098607 for 18 columns.
            HeapSquares x = layings(0, TWO, L, draw("####", ".#", ".#"), draw("####", "#", "#", "#"));
            untold(x, FULL, "strip(4, 18)", () -> x.strip(4, 18));
            untold(x, FULL, "strip(4, 19)", () -> x.strip(4, 19));
        });
        test("FULL where a long would wrap round", () -> {
            HeapSquares x = layings(0, ONE, ONE, ONE, ONE);
            due("2 to the power of 48", x.strip(4, 6), 1L << 48);
            untold(x, FULL, "2 to the power of 64", () -> x.strip(4, 8));
            untold(x, FULL, "2 to the power of 160", () -> x.strip(4, 20));
            due("2 to the power of 40", x.strip(1, 20), 1L << 40);
            untold(x, FULL, "2 to the power of 52", () -> x.strip(2, 13));
        });
        test("behind FULL all goes on as ever", () -> {
            HeapSquares x = layings(0, ONE, TWO);
            untold(x, FULL, "strip(4, 20)", () -> x.strip(4, 20));
            due("strip(2, 2)", x.strip(2, 2), 7);
            due("strip(4, 0)", x.strip(4, 0), 1);
        });
        test("of several refusals the first: NO, FULL", () -> {
            HeapSquares x = bench(ONE, draw("#####"));
            x.sort(0, -1);
            x.sort(0, -1);
            x.sort(0, -1);
            untold(x, FULL, "strip(4, 20)", () -> x.strip(4, 20));
            x.sort(1, -1);
            untold(x, NO, "strip(4, 20)", () -> x.strip(4, 20));
        });
    }

    private static void testLay() {
        promise(27);
        test("how many SQUARES in each row, by y: HIGH, 1 at least and 8 at most", () -> {
            HeapSquares x = bench(ROW8, COLUMN8, draw("#.#", "###", "#"));
            due("lay(0)", x.lay(0), 1);
            due("row(0)", x.row(0), 8);
            due("lay(1)", x.lay(1), 8);
            for (int i = 0; i < 8; i++) {
                due("row(" + i + ")", x.row(i), 1);
            }
            due("lay(2)", x.lay(2), 3);
            dueEach("the row", rows(x, 3), 2, 3, 1);
        });
        test("BEYOND, and THE ROW stays", () -> {
            HeapSquares x = bench(draw("###", "#"));
            x.lay(0);
            for (int heap : NO_HEAPS) {
                refused(x, BEYOND, "lay(" + heap + ")", () -> x.lay(heap));
            }
            refused(x, BEYOND, "lay(1)", () -> x.lay(1));
            dueEach("the row", rows(x, 2), 3, 1);
        });
        test("BEYOND, and THE ROW stays missing", () -> {
            HeapSquares x = new HeapSquares();
            refused(x, BEYOND, "lay(0)", () -> x.lay(0));
            refused(x, MISSING, "row(0)", () -> x.row(0));
            due("tear()", x.tear(), 0);
        });
        test("THE ROW stays when its HEAP goes", () -> {
            HeapSquares x = bench(draw("###", "#"));
            x.lay(0);
            x.drop();
            dueEach("the row", rows(x, 2), 3, 1);
        });
    }

    private static long[] rows(HeapSquares x, int many) {
        long[] rows = new long[many];
        for (int i = 0; i < many; i++) {
            rows[i] = x.row(i);
        }
        return rows;
    }

    private static void testTear() {
        promise(28);
        test("at first it is missing: 0", () -> {
            HeapSquares x = bench(ONE);
            due("tear()", x.tear(), 0);
            due("tear()", x.tear(), 0);
        });
        test("1 if it was there, then it is missing", () -> {
            HeapSquares x = bench(ONE);
            x.lay(0);
            due("tear()", x.tear(), 1);
            refused(x, MISSING, "row(0)", () -> x.row(0));
            due("tear()", x.tear(), 0);
            x.lay(0);
            due("row(0)", x.row(0), 1);
        });
    }

    private static void testRow() {
        promise(29);
        test("MISSING", () -> {
            HeapSquares x = bench(ONE);
            refused(x, MISSING, "row(0) ahead of lay()", () -> x.row(0));
            x.lay(0);
            x.tear();
            refused(x, MISSING, "row(0) behind tear()", () -> x.row(0));
        });
        test("BEYOND: below 0, or HIGH", () -> {
            HeapSquares x = bench(draw("###", "#"), COLUMN8);
            x.lay(0);
            for (int i : new int[] {MIN, -1, 2, 8, MAX}) {
                refused(x, BEYOND, "row(" + i + ")", () -> x.row(i));
            }
            due("row(1)", x.row(1), 1);
            x.lay(1);
            for (int i : new int[] {MIN, -1, 8, 9, MAX}) {
                refused(x, BEYOND, "row(" + i + ")", () -> x.row(i));
            }
            due("row(7)", x.row(7), 1);
        });
        test("BEYOND: what an older, longer ROW had", () -> {
            HeapSquares x = bench(COLUMN8, ONE);
            x.lay(0);
            x.lay(1);
            refused(x, BEYOND, "row(1)", () -> x.row(1));
        });
        test("of several refusals the first: MISSING, BEYOND", () -> {
            HeapSquares x = bench(ONE);
            refused(x, MISSING, "row(-1)", () -> x.row(-1));
            refused(x, MISSING, "row(8)", () -> x.row(8));
        });
    }

    /** A bench with the row 4, 1, 2, 1. */
    private static HeapSquares laid() {
        HeapSquares x = bench(draw("####", "#", "##", ".#"));
        due("lay(0)", x.lay(0), 4);
        return x;
    }

    private static void testCopy() {
        promise(30);
        test("n 0: none comes, from each place and to each, the one behind the last too", () -> {
            HeapSquares x = laid();
            for (int i = 0; i <= 4; i++) {
                due("copy(" + i + ", " + (4 - i) + ", 0)", x.copy(i, 4 - i, 0), 0);
            }
            due("copy(4, 4, 0)", x.copy(4, 4, 0), 0);
            dueEach("the row", rows(x, 4), 4, 1, 2, 1);
        });
        test("as they were: to the right, over themselves", () -> {
            HeapSquares x = laid();
            due("copy(0, 1, 3)", x.copy(0, 1, 3), 3);
            dueEach("the row", rows(x, 4), 4, 4, 1, 2);
        });
        test("as they were: to the left, over themselves", () -> {
            HeapSquares x = laid();
            due("copy(1, 0, 3)", x.copy(1, 0, 3), 3);
            dueEach("the row", rows(x, 4), 1, 2, 1, 1);
        });
        test("all of them, and each one to its own place", () -> {
            HeapSquares x = laid();
            due("copy(0, 0, 4)", x.copy(0, 0, 4), 4);
            due("copy(3, 3, 1)", x.copy(3, 3, 1), 1);
            dueEach("the row", rows(x, 4), 4, 1, 2, 1);
        });
        test("the last to the first, the first to the last", () -> {
            HeapSquares x = laid();
            due("copy(0, 3, 1)", x.copy(0, 3, 1), 1);
            dueEach("the row", rows(x, 4), 4, 1, 2, 4);
            due("copy(2, 0, 1)", x.copy(2, 0, 1), 1);
            dueEach("the row", rows(x, 4), 2, 1, 2, 4);
        });
        test("of a ROW of 8: all, and none behind it", () -> {
            HeapSquares x = bench(COLUMN8);
            x.lay(0);
            due("copy(0, 0, 8)", x.copy(0, 0, 8), 8);
            due("copy(8, 8, 0)", x.copy(8, 8, 0), 0);
            refused(x, COPY, "copy(0, 0, 9)", () -> x.copy(0, 0, 9));
            refused(x, COPY, "copy(9, 0, 0)", () -> x.copy(9, 0, 0));
        });
        test("THE ROW alone changes", () -> {
            HeapSquares x = laid();
            x.copy(0, 1, 1);
            due("set(0)", x.set(0), draw("####", "#", "##", ".#"));
            due("lay(0)", x.lay(0), 4);
            due("row(1)", x.row(1), 1);
        });
    }

    private static void testCopyRefused() {
        promise(30);
        test("MISSING", () -> {
            HeapSquares x = bench(ONE);
            refused(x, MISSING, "copy(0, 0, 1) ahead of lay()", () -> x.copy(0, 0, 1));
            x.lay(0);
            x.tear();
            refused(x, MISSING, "copy(0, 0, 0) behind tear()", () -> x.copy(0, 0, 0));
        });
        test("BELOW: n", () -> {
            HeapSquares x = laid();
            refused(x, BELOW, "copy(0, 0, -1)", () -> x.copy(0, 0, -1));
            refused(x, BELOW, "copy(2, 2, -2)", () -> x.copy(2, 2, -2));
            refused(x, BELOW, "copy(0, 0, MIN)", () -> x.copy(0, 0, MIN));
        });
        test("COPY: i or j below 0, of n 0 too", () -> {
            HeapSquares x = laid();
            refused(x, COPY, "copy(-1, 0, 1)", () -> x.copy(-1, 0, 1));
            refused(x, COPY, "copy(0, -1, 1)", () -> x.copy(0, -1, 1));
            refused(x, COPY, "copy(-1, 0, 0)", () -> x.copy(-1, 0, 0));
            refused(x, COPY, "copy(0, -1, 0)", () -> x.copy(0, -1, 0));
            refused(x, COPY, "copy(MIN, 0, 0)", () -> x.copy(MIN, 0, 0));
            refused(x, COPY, "copy(0, MIN, 0)", () -> x.copy(0, MIN, 0));
        });
        test("COPY: i + n above how many there are", () -> {
            HeapSquares x = laid();
            refused(x, COPY, "copy(0, 0, 5)", () -> x.copy(0, 0, 5));
            refused(x, COPY, "copy(1, 0, 4)", () -> x.copy(1, 0, 4));
            refused(x, COPY, "copy(4, 0, 1)", () -> x.copy(4, 0, 1));
            refused(x, COPY, "copy(5, 0, 0)", () -> x.copy(5, 0, 0));
        });
        test("COPY: j + n above how many there are", () -> {
            HeapSquares x = laid();
            refused(x, COPY, "copy(0, 1, 4)", () -> x.copy(0, 1, 4));
            refused(x, COPY, "copy(0, 4, 1)", () -> x.copy(0, 4, 1));
            refused(x, COPY, "copy(0, 5, 0)", () -> x.copy(0, 5, 0));
        });
        test("COPY: i + n or j + n that would wrap round", () -> {
            HeapSquares x = laid();
            refused(x, COPY, "copy(MAX, 0, 1)", () -> x.copy(MAX, 0, 1));
            refused(x, COPY, "copy(0, MAX, 1)", () -> x.copy(0, MAX, 1));
            refused(x, COPY, "copy(1, 0, MAX)", () -> x.copy(1, 0, MAX));
            refused(x, COPY, "copy(0, 1, MAX)", () -> x.copy(0, 1, MAX));
            refused(x, COPY, "copy(MAX, MAX, MAX)", () -> x.copy(MAX, MAX, MAX));
            refused(x, COPY, "copy(4, 4, MAX)", () -> x.copy(4, 4, MAX));
            dueEach("the row", rows(x, 4), 4, 1, 2, 1);
        });
        test("of several refusals the first: MISSING, BELOW, COPY", () -> {
            HeapSquares x = bench(draw("####", "#", "##", ".#"));
            refused(x, MISSING, "copy(-1, 9, -1)", () -> x.copy(-1, 9, -1));
            refused(x, MISSING, "copy(9, 9, 1)", () -> x.copy(9, 9, 1));
            x.lay(0);
            refused(x, BELOW, "copy(-1, 9, -1)", () -> x.copy(-1, 9, -1));
            refused(x, COPY, "copy(-1, 9, 1)", () -> x.copy(-1, 9, 1));
        });
    }

    private static void testStatus() {
        promise(31);
        test("at first none were refused", () -> dueEach("status", refusals(new HeapSquares()), 0, 0, 0, 0, 0, 0, 0));
        test("by -2 .. -8, NO: another number", () -> {
            HeapSquares x = new HeapSquares();
            for (int by : new int[] {MIN, MIN + 2, -9, -1, 0, 1, 2, 8, MAX}) {
                refused(x, NO, "status(" + by + ")", () -> x.status(by));
            }
        });
        test("a status() that is refused counts itself", () -> {
            HeapSquares x = new HeapSquares();
            due("status(-1)", x.status(-1), NO);
            due("status(NO)", x.status(NO), 1);
            due("status(NO) again", x.status(NO), 1);
            due("status(0)", x.status(0), NO);
            due("status(NO)", x.status(NO), 2);
        });
        test("NONE is no refusal, nor is 0 that isn't one", () -> {
            HeapSquares x = bench(draw("#######"));
            due("square(0)", x.square(0), -1);
            due("halves", x.look(0, 7), 0);
            due("strip(1, 1)", x.strip(1, 1), 0);
            HeapSquares y = bench(ONE);
            due("cuts(0)", y.cuts(0), 0);
            due("first()", y.first(), 1);
            due("go()", y.go(), 0);
            dueEach("status", refusals(x), 0, 0, 0, 0, 0, 0, 0);
            dueEach("status", refusals(y), 0, 0, 0, 0, 0, 0, 0);
        });
        test("each answer is counted on its own", () -> {
            HeapSquares x = full(ONE);
            for (int i = 0; i < 2; i++) {
                x.row(0);
            }
            for (int i = 0; i < 3; i++) {
                x.set(12);
            }
            x.lay(0);
            for (int i = 0; i < 4; i++) {
                x.copy(0, 0, -1);
            }
            for (int i = 0; i < 5; i++) {
                x.copy(0, 0, 2);
            }
            for (int i = 0; i < 6; i++) {
                x.count(0, 0);
            }
            for (int i = 0; i < 7; i++) {
                x.heap(1);
            }
            x.sort(0, -1);
            x.sort(0, -1);
            x.ground(-1);
            x.all();
            dueEach("status", refusals(x), 2, 3, 4, 5, 6, 7, 1);
        });
    }
}
