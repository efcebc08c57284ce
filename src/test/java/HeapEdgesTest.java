/** Promises 1 to 12: a test for each sentence that names an edge. */
public final class HeapEdgesTest extends Sentences {
    private static final long ONE = draw("#");
    private static final long TWO = draw("##");
    private static final long CORNER = draw("##", "#");
    private static final long L = draw("###", "#");
    private static final long RING = draw("###", "#.#", "###");
    private static final long ROW8 = draw("########");
    private static final long COLUMN8 = draw("#", "#", "#", "#", "#", "#", "#", "#");

    public static void main(String[] args) {
        testNewObject();
        testSquares();
        testHeap();
        testDrop();
        testSet();
        testKinds();
        testLook();
        testHalves();
        testForms();
        testCuts();
        testSame();
        testTurn();
        testGrow();
        testGrowBeyond();
        testPut();
        end();
    }

    private static void testNewObject() {
        promise(1);
        test("no HEAPS", () -> {
            HeapSquares x = new HeapSquares();
            untold(x, BEYOND, "set(0)", () -> x.set(0));
            refused(x, MISSING, "drop()", x::drop);
            due("heap(1)", x.heap(1), 0);
        });
        test("no SORTS", () -> {
            HeapSquares x = new HeapSquares();
            due("unsort()", x.unsort(), 0);
            x.ground(1);
            due("all()", x.all(), 0);
        });
        test("the GROUND is empty", () -> {
            HeapSquares x = new HeapSquares();
            due("colour(0, 1, 0)", x.colour(0, 1, 0), 0);
            due("first()", x.first(), 1);
            due("laid(-1, 0)", x.laid(-1, 0), 0);
        });
        test("an object is its own", () -> {
            HeapSquares x = bench(L);
            x.ground(1);
            x.lay(0);
            x.set(1);
            HeapSquares y = new HeapSquares();
            due("status(BEYOND)", y.status(BEYOND), 0);
            untold(y, BEYOND, "set(0)", () -> y.set(0));
            due("colour(0, 1, 0)", y.colour(0, 1, 0), 0);
            due("tear()", y.tear(), 0);
            due("set(0) of the first", x.set(0), L);
        });
    }

    private static void testSquares() {
        promise(2);
        test("x, y 0 .. 7 each: bit 8 y + x, moved to the left and up", () -> {
            HeapSquares x = new HeapSquares();
            for (int bit = 0; bit < 64; bit++) {
                due("heap of bit " + bit, x.heap(1L << bit), 0);
                due("set(0)", x.set(0), 1);
                x.drop();
            }
        });
        test("over sides: left and right", () -> {
            HeapSquares x = new HeapSquares();
            for (int bit = 0; bit < 63; bit++) {
                // At the right side there is none to the right, though the next bit is the next row's first.
                due("heap of bit " + bit + " and the next one", x.heap(3L << bit), bit % 8 == 7 ? NO : 0);
                x.drop();
            }
        });
        test("over sides: above and below", () -> {
            HeapSquares x = new HeapSquares();
            for (int bit = 0; bit < 56; bit++) {
                due("heap of bit " + bit + " and that below", x.heap(257L << bit), 0);
                due("set(0)", x.set(0), 257);
                x.drop();
            }
        });
        test("over sides, not over corners", () -> {
            HeapSquares x = new HeapSquares();
            refused(x, NO, "heap, falling", () -> x.heap(draw("#.", ".#")));
            refused(x, NO, "heap, rising", () -> x.heap(draw(".#", "#.")));
            refused(x, NO, "heap, in the lowest corner", () -> x.heap(draw("#.", ".#") << 54));
        });
        test("the sides aren't joined: a row's ends, a column's ends, the first and the last", () -> {
            HeapSquares x = new HeapSquares();
            refused(x, NO, "heap, a row's ends", () -> x.heap(1L | 1L << 7));
            refused(x, NO, "heap, a column's ends", () -> x.heap(1L | 1L << 56));
            refused(x, NO, "heap, first and last", () -> x.heap(1L | 1L << 63));
            refused(x, NO, "heap, the lower row's ends", () -> x.heap(1L << 56 | 1L << 63));
            refused(x, NO, "heap, the right column's ends", () -> x.heap(1L << 7 | 1L << 63));
        });
        test("moved as far to the left and up as can be", () -> {
            long[] sets = {L << 53, draw(".##", "##") << 53, RING << 45, COLUMN8 << 7, ROW8 << 56, ROW8 << 24,
                draw(".#", "##", ".#") << 40, draw("#", "##", "#") << 46};
            long[] moved = {L, draw(".##", "##"), RING, COLUMN8, ROW8, ROW8, draw(".#", "##", ".#"),
                draw("#", "##", "#")};
            HeapSquares x = bench(sets);
            for (int i = 0; i < sets.length; i++) {
                due("set(" + i + ")", x.set(i), moved[i]);
            }
        });
    }

    private static void testHeap() {
        promise(2);
        test("a HEAP has 1 to 8 SQUARES", () -> {
            HeapSquares x = new HeapSquares();
            for (int n = 1; n <= 8; n++) {
                due("heap of " + n, x.heap((1L << n) - 1), n - 1);
                due("look(" + (n - 1) + ", 1)", x.look(n - 1, 1), n);
            }
        });
        test("NO: it has no SQUARE", () -> {
            HeapSquares x = new HeapSquares();
            refused(x, NO, "heap(0)", () -> x.heap(0));
        });
        test("NO: more than 8", () -> {
            HeapSquares x = new HeapSquares();
            refused(x, NO, "heap, 3 by 3", () -> x.heap(box(3, 3)));
            refused(x, NO, "heap, a row and one", () -> x.heap(ROW8 | 1L << 8));
            refused(x, NO, "heap, a column and one", () -> x.heap(COLUMN8 | 2L));
            refused(x, NO, "heap, all", () -> x.heap(-1L));
            due("heap, 4 by 2", x.heap(box(4, 2)), 0);
        });
        test("NO: it doesn't HANG TOGETHER", () -> {
            HeapSquares x = new HeapSquares();
            refused(x, NO, "heap, one apart", () -> x.heap(draw("####.#")));
            refused(x, NO, "heap, of 8, one apart", () -> x.heap(draw("####", "###.", "....#")));
            refused(x, NO, "heap, the latest apart", () -> x.heap(3L | Long.MIN_VALUE));
            refused(x, NO, "heap, two rows apart", () -> x.heap(draw("###", "...", "###")));
        });
        test("HEAPS 0 .. 11 as they come, then FULL", () -> {
            HeapSquares x = new HeapSquares();
            for (int i = 0; i < 12; i++) {
                due("heap", x.heap((1L << 1 + i % 8) - 1), i);
            }
            refused(x, FULL, "heap(1)", () -> x.heap(1));
            for (int i = 0; i < 12; i++) {
                due("set(" + i + ")", x.set(i), (1L << 1 + i % 8) - 1);
            }
        });
        test("of several refusals the first: NO, FULL", () -> {
            HeapSquares x = full();
            refused(x, NO, "heap(0)", () -> x.heap(0));
            refused(x, NO, "heap(5)", () -> x.heap(5));
            refused(x, NO, "heap(-1)", () -> x.heap(-1));
        });
        test("behind drop() there is room again", () -> {
            HeapSquares x = full();
            refused(x, FULL, "heap(1)", () -> x.heap(1));
            due("drop()", x.drop(), 11);
            due("heap(3)", x.heap(TWO), 11);
            due("set(11)", x.set(11), TWO);
            refused(x, FULL, "heap(1)", () -> x.heap(1));
        });
    }

    private static void testDrop() {
        promise(3);
        test("the latest HEAP goes: how many there are", () -> {
            HeapSquares x = full();
            for (int left = 11; left >= 0; left--) {
                due("drop()", x.drop(), left);
                untold(x, BEYOND, "set of the one that went", () -> x.set(11));
            }
        });
        test("MISSING: there is none", () -> {
            HeapSquares x = bench(ONE);
            due("drop()", x.drop(), 0);
            refused(x, MISSING, "drop()", x::drop);
            refused(x, MISSING, "drop() again", x::drop);
            due("heap(1)", x.heap(1), 0);
        });
        test("NO: it is a SORT", () -> {
            HeapSquares x = bench(ONE);
            x.sort(0, -1);
            refused(x, NO, "drop()", x::drop);
            due("set(0)", x.set(0), ONE);
            due("unsort()", x.unsort(), 1);
            due("drop()", x.drop(), 0);
        });
        test("NO: it is a SORT, with no copies too, and the fourth one too", () -> {
            HeapSquares x = bench(ONE, TWO);
            x.sort(0, 1);
            x.sort(0, 1);
            x.sort(0, 1);
            due("sort(1, 0)", x.sort(1, 0), 4);
            refused(x, NO, "drop()", x::drop);
        });
        test("an earlier HEAP may be a SORT", () -> {
            HeapSquares x = bench(ONE, ONE);
            x.sort(0, -1);
            due("drop()", x.drop(), 1);
            refused(x, NO, "drop()", x::drop);
        });
        test("what was dropped isn't there for any call", () -> {
            HeapSquares x = bench(L, CORNER);
            due("drop()", x.drop(), 1);
            refused(x, BEYOND, "look(1, 0)", () -> x.look(1, 0));
            refused(x, BEYOND, "same(0, 1)", () -> x.same(0, 1));
            refused(x, BEYOND, "sort(1, 1)", () -> x.sort(1, 1));
            refused(x, BEYOND, "lay(1)", () -> x.lay(1));
            refused(x, BEYOND, "square(1)", () -> x.square(1));
        });
    }

    private static void testSet() {
        promise(4);
        test("BEYOND: 0, and status() tells of it", () -> {
            HeapSquares x = bench(L, TWO);
            for (int heap : NO_HEAPS) {
                untold(x, BEYOND, "set(" + heap + ")", () -> x.set(heap));
            }
            untold(x, BEYOND, "set(2), one too many", () -> x.set(2));
            due("set(0), the first", x.set(0), L);
            due("set(1), the last", x.set(1), TWO);
        });
        test("twelve of them: 11 is the last", () -> {
            HeapSquares x = full(L);
            due("set(11)", x.set(11), 1);
            untold(x, BEYOND, "set(12)", () -> x.set(12));
        });
    }

    private static void kind(int want, String... rows) {
        HeapSquares x = bench(draw(rows));
        due("kind of " + String.join("/", rows), x.look(0, 0), want);
    }

    private static void testKinds() {
        promise(5);
        test("0 STAIR: FAT, with 0, 0 and WIDE - 1, HIGH - 1", () -> {
            kind(0, "##.", ".##");
            kind(0, "##..", ".##.", "..##");
            kind(1, "##.", ".##", ".#.");
        });
        test("0 STAIR: FAT, with WIDE - 1, 0 and 0, HIGH - 1", () -> {
            kind(0, ".##", "##.");
            kind(0, "..##", ".##.", "##..");
            kind(1, ".##", "##.", ".#.");
        });
        test("0 STAIR: one SQUARE alone, rows and columns of 1 to 8, and blocks are", () -> {
            kind(0, "#");
            kind(0, "########");
            kind(0, "#", "#", "#", "#", "#", "#", "#", "#");
            kind(0, "####", "####");
        });
        test("0 STAIR: three corners do, two on one side don't", () -> {
            kind(0, "##", "#");
            kind(0, "###", "#");
            kind(1, "###", ".#.");
            kind(1, ".#.", "###");
            kind(1, "#.", "##", "#.");
            kind(1, ".#", "##", ".#");
        });
        test("0 STAIR must be FAT: both corners with a gap are none", () -> {
            kind(2, "#.#", "###");
            kind(4, "##", "#.", "##");
        });
        test("1 FAT: no gaps in each row and each column", () -> {
            kind(1, ".#.", "###", ".#.");
            kind(1, ".##.", "####", ".##.");
        });
        test("2 ROW: no gaps in each column, one in a row", () -> {
            kind(2, "#.#", "###");
            kind(2, "###", "#.#");
            kind(2, "#....#", "######");
            kind(2, "#.#", "###", "#.#");
        });
        test("3 HOLED: one can't come out over sides", () -> {
            kind(3, "###", "#.#", "###");
            kind(3, ".##", "#.#", "###");
            kind(3, "##.", "#.#", "###");
            kind(3, "###", "#.#", ".##");
            kind(3, "###", "#.#", "##.");
        });
        test("3 HOLED: open to one side it isn't", () -> {
            kind(4, "###", "..#", "###");
            kind(4, "###", "#..", "###");
            kind(2, "#.#", "#.#", "###");
            kind(2, "###", "#.#", "#.#");
        });
        test("4 HEAP: any, with gaps in a column", () -> {
            kind(4, "##", "#.", "##");
            kind(4, "##", ".#", "##");
            kind(4, "#.##", "###.", "..##");
        });
    }

    private static void testLook() {
        promise(5);
        test("what is 0 .. 7, NO: another one", () -> {
            HeapSquares x = bench(L);
            for (int what : new int[] {MIN, -1, 8, 9, MAX}) {
                refused(x, NO, "look(0, " + what + ")", () -> x.look(0, what));
            }
        });
        test("BEYOND", () -> {
            HeapSquares x = bench(L);
            for (int heap : NO_HEAPS) {
                refused(x, BEYOND, "look(" + heap + ", 0)", () -> x.look(heap, 0));
            }
            refused(x, BEYOND, "look(1, 7)", () -> x.look(1, 7));
        });
        test("of several refusals the first: BEYOND, NO", () -> {
            HeapSquares x = bench(L);
            refused(x, BEYOND, "look(1, 8)", () -> x.look(1, 8));
            refused(x, BEYOND, "look(-1, -1)", () -> x.look(-1, -1));
        });
        test("WIDE and HIGH are 1 at least and 8 at most", () -> {
            HeapSquares x = bench(ONE, ROW8, COLUMN8, draw("#####", "....#", "....#", "....#"));
            int[] wide = {1, 8, 1, 5};
            int[] high = {1, 1, 8, 4};
            for (int i = 0; i < 4; i++) {
                due("look(" + i + ", 2)", x.look(i, 2), wide[i]);
                due("look(" + i + ", 3)", x.look(i, 3), high[i]);
            }
        });
        test("RIM: each side that is none of another one, within a hole too", () -> {
            HeapSquares x = bench(ONE, TWO, box(2, 2), ROW8, COLUMN8, RING, draw("#.#", "###"));
            int[] rim = {4, 6, 8, 18, 18, 16, 12};
            for (int i = 0; i < rim.length; i++) {
                due("look(" + i + ", 4)", x.look(i, 4), rim[i]);
            }
        });
        test("FORMS that are alike once: 1, 2 or 4 without MIRRORS, 1, 2, 4 or 8 with them", () -> {
            HeapSquares x = bench(ONE, TWO, CORNER, draw(".##", "##."), L, box(2, 2), RING, draw(".#.", "###", ".#."));
            int[] without = {1, 2, 4, 2, 4, 1, 1, 1};
            int[] with = {1, 2, 4, 4, 8, 1, 1, 1};
            for (int i = 0; i < with.length; i++) {
                due("look(" + i + ", 5)", x.look(i, 5), without[i]);
                due("look(" + i + ", 6)", x.look(i, 6), with[i]);
            }
        });
    }

    private static void halves(int want, String... rows) {
        HeapSquares x = bench(draw(rows));
        due("halves of " + String.join("/", rows), x.look(0, 7), want);
    }

    private static void testHalves() {
        promise(5);
        test("HALVES: of one SQUARE alone, and of an odd number, there are none", () -> {
            halves(0, "#");
            halves(0, "###");
            halves(0, "#######");
        });
        test("HALVES: which is which doesn't matter", () -> {
            halves(1, "##");
            halves(1, "#", "#");
            halves(1, "########");
            halves(2, "##", "##");
            halves(4, "###", "#.#", "###");
        });
        test("HALVES: with MIRRORS", () -> halves(1, "######", "#....#"));
        test("HALVES: both must HANG TOGETHER and have the same CODE", () -> {
            halves(0, "###", ".#.");
            halves(0, "####", ".#..", ".#..");
            halves(1, "###", "#..");
        });
    }

    private static void testForms() {
        promise(6);
        test("CODE: the least of the FORMS, with MIRRORS; alike for all of them", () -> {
            HeapSquares x = bench(draw("###", "#"), draw("###", "..#"), draw("#", "###"), draw("..#", "###"),
                draw("##", "#", "#"), draw("##", ".#", ".#"), draw("#", "#", "##"), draw(".#", ".#", "##"));
            for (int i = 0; i < 8; i++) {
                due("code(" + i + ")", x.code(i), L);
            }
        });
        test("CODE of the longest", () -> {
            HeapSquares x = bench(COLUMN8, ROW8);
            due("code(0)", x.code(0), 255);
            due("code(1)", x.code(1), 255);
        });
        test("BEYOND: 0 likewise", () -> {
            HeapSquares x = bench(L);
            for (int heap : NO_HEAPS) {
                untold(x, BEYOND, "code(" + heap + ")", () -> x.code(heap));
            }
            untold(x, BEYOND, "code(1)", () -> x.code(1));
        });
        promise(7);
        test("FORM i, from 0, ordered by their numbers", () -> {
            HeapSquares x = bench(draw(".#", ".#", "##"));
            long last = 0;
            for (int i = 0; i < 8; i++) {
                due("form(0, " + i + ", true), after the one ahead", x.form(0, i, true) > last ? 1 : 0, 1);
                last = x.form(0, i, true);
            }
            due("form(0, 0, true)", x.form(0, 0, true), L);
            due("form(0, 0, false)", x.form(0, 0, false), draw("###", "..#"));
        });
        test("BEYOND: i below 0 or as many as there are FORMS", () -> {
            HeapSquares x = bench(ONE, L, TWO);
            untold(x, BEYOND, "form(0, 1, true)", () -> x.form(0, 1, true));
            untold(x, BEYOND, "form(0, 1, false)", () -> x.form(0, 1, false));
            untold(x, BEYOND, "form(1, 8, true)", () -> x.form(1, 8, true));
            untold(x, BEYOND, "form(1, 4, false)", () -> x.form(1, 4, false));
            untold(x, BEYOND, "form(2, 2, true)", () -> x.form(2, 2, true));
            for (int i : new int[] {MIN, -1, MAX}) {
                untold(x, BEYOND, "form(1, " + i + ", true)", () -> x.form(1, i, true));
                untold(x, BEYOND, "form(1, " + i + ", false)", () -> x.form(1, i, false));
            }
            due("form(0, 0, true)", x.form(0, 0, true), ONE);
            due("form(2, 1, true)", x.form(2, 1, true), 257);
            due("form(1, 7, true)", x.form(1, 7, true), draw(".#", ".#", "##"));
            due("form(1, 3, false)", x.form(1, 3, false), draw("#", "#", "##"));
        });
        test("BEYOND: the HEAP", () -> {
            HeapSquares x = bench(L);
            for (int heap : NO_HEAPS) {
                untold(x, BEYOND, "form(" + heap + ", 0, true)", () -> x.form(heap, 0, true));
            }
            untold(x, BEYOND, "form(1, 0, false)", () -> x.form(1, 0, false));
        });
    }

    private static void testCuts() {
        promise(8);
        test("CUTS of one SQUARE alone: none", () -> {
            HeapSquares x = bench(ONE);
            long[] before = refusals(x);
            due("cuts(0)", x.cuts(0), 0);
            due("status(BEYOND)", x.status(BEYOND), before[1]);
        });
        test("CUTS of two: none", () -> due("cuts(0)", bench(TWO).cuts(0), 0));
        test("CUTS of a row: all but its ends", () -> {
            due("cuts(0)", bench(ROW8).cuts(0), ROW8 & ~1L & ~128L);
            due("cuts(0)", bench(COLUMN8).cuts(0), COLUMN8 & ~1L & ~(1L << 56));
        });
        test("CUTS of a ring: none, of an open one all but its ends", () -> {
            due("cuts(0)", bench(RING).cuts(0), 0);
            due("cuts(0)", bench(draw("###", "#..", "###")).cuts(0), draw("##.", "#..", "##."));
        });
        test("BEYOND: 0 likewise", () -> {
            HeapSquares x = bench(L);
            for (int heap : NO_HEAPS) {
                untold(x, BEYOND, "cuts(" + heap + ")", () -> x.cuts(heap));
            }
            untold(x, BEYOND, "cuts(1)", () -> x.cuts(1));
        });
    }

    private static void testSame() {
        promise(9);
        test("2 if they are alike", () -> {
            HeapSquares x = bench(L, L << 29);
            due("same(0, 0)", x.same(0, 0), 2);
            due("same(0, 1)", x.same(0, 1), 2);
        });
        test("1 if they have the same CODE", () -> {
            HeapSquares x = bench(L, draw("..#", "###"), draw("###", "..#"));
            due("same(0, 1), turned", x.same(0, 1), 1);
            due("same(0, 2), mirrored", x.same(0, 2), 1);
        });
        test("else 0", () -> {
            HeapSquares x = bench(L, draw("###", ".#."), ONE);
            due("same(0, 1)", x.same(0, 1), 0);
            due("same(2, 0)", x.same(2, 0), 0);
        });
        test("BEYOND, the one or the other", () -> {
            HeapSquares x = bench(L);
            for (int heap : NO_HEAPS) {
                refused(x, BEYOND, "same(" + heap + ", 0)", () -> x.same(heap, 0));
                refused(x, BEYOND, "same(0, " + heap + ")", () -> x.same(0, heap));
            }
            refused(x, BEYOND, "same(0, 1)", () -> x.same(0, 1));
            refused(x, BEYOND, "same(1, 1)", () -> x.same(1, 1));
        });
    }

    private static void testTurn() {
        promise(10);
        test("x, y become HIGH - 1 - y, x; MIRRORED ahead of that", () -> {
            HeapSquares x = bench(L);
            due("turn(0, 1, false)", x.turn(0, 1, false), 1);
            due("set(1)", x.set(1), draw("##", ".#", ".#"));
            due("turn(0, 1, true)", x.turn(0, 1, true), 2);
            due("set(2)", x.set(2), draw(".#", ".#", "##"));
        });
        test("times 0 .. 3", () -> {
            HeapSquares x = bench(L);
            due("turn(0, 0, false)", x.turn(0, 0, false), 1);
            due("set(1)", x.set(1), L);
            due("turn(0, 3, false)", x.turn(0, 3, false), 2);
            due("set(2)", x.set(2), draw("#", "#", "##"));
            due("turn(0, 0, true)", x.turn(0, 0, true), 3);
            due("set(3)", x.set(3), draw("###", "..#"));
            due("turn(0, 3, true)", x.turn(0, 3, true), 4);
            due("set(4)", x.set(4), draw("##", "#", "#"));
        });
        test("the widest and the highest", () -> {
            HeapSquares x = bench(ROW8);
            due("turn(0, 1, true)", x.turn(0, 1, true), 1);
            due("set(1)", x.set(1), COLUMN8);
            due("turn(1, 3, true)", x.turn(1, 3, true), 2);
            due("set(2)", x.set(2), ROW8);
        });
        test("NO: times", () -> {
            HeapSquares x = bench(L);
            for (int times : new int[] {MIN, -4, -1, 4, 5, MAX}) {
                refused(x, NO, "turn(0, " + times + ", false)", () -> x.turn(0, times, false));
                refused(x, NO, "turn(0, " + times + ", true)", () -> x.turn(0, times, true));
            }
            untold(x, BEYOND, "set(1)", () -> x.set(1));
        });
        test("BEYOND", () -> {
            HeapSquares x = bench(L);
            for (int heap : NO_HEAPS) {
                refused(x, BEYOND, "turn(" + heap + ", 0, false)", () -> x.turn(heap, 0, false));
            }
            refused(x, BEYOND, "turn(1, 0, false)", () -> x.turn(1, 0, false));
        });
        test("FULL", () -> {
            HeapSquares x = full(L);
            refused(x, FULL, "turn(0, 0, false)", () -> x.turn(0, 0, false));
            refused(x, FULL, "turn(11, 3, true)", () -> x.turn(11, 3, true));
            due("drop()", x.drop(), 11);
            due("turn(0, 2, false)", x.turn(0, 2, false), 11);
        });
        test("of several refusals the first: BEYOND, NO, FULL", () -> {
            HeapSquares x = full(L);
            refused(x, BEYOND, "turn(12, 4, false)", () -> x.turn(12, 4, false));
            refused(x, BEYOND, "turn(12, 0, false)", () -> x.turn(12, 0, false));
            refused(x, NO, "turn(0, 4, false)", () -> x.turn(0, 4, false));
        });
    }

    private static int told(int x, int y) {
        return 16 * (y + 1) + x + 1;
    }

    private static void testGrow() {
        promise(11);
        test("one SQUARE more at each side, at -1 too", () -> {
            int[][] squares = {{-1, 0}, {0, -1}, {2, 0}, {1, -1}, {0, 1}, {1, 1}};
            long[] grown = {draw("###"), draw("#", "##"), draw("###"), draw(".#", "##"), draw("##", "#"),
                draw("##", ".#")};
            HeapSquares x = bench(TWO);
            for (int i = 0; i < squares.length; i++) {
                int square = told(squares[i][0], squares[i][1]);
                due("grow(0, " + square + ")", x.grow(0, square), i + 1);
                due("set(" + (i + 1) + ")", x.set(i + 1), grown[i]);
            }
            due("set(0)", x.set(0), TWO);
        });
        test("up to 8 SQUARES, WIDE 8 or HIGH 8", () -> {
            HeapSquares x = bench(draw("#######"), draw("#", "#", "#", "#", "#", "#", "#"));
            due("at the right", x.grow(0, told(7, 0)), 2);
            due("set(2)", x.set(2), ROW8);
            due("at the left", x.grow(0, told(-1, 0)), 3);
            due("set(3)", x.set(3), ROW8);
            due("below", x.grow(1, told(0, 7)), 4);
            due("set(4)", x.set(4), COLUMN8);
            due("above", x.grow(1, told(0, -1)), 5);
            due("set(5)", x.set(5), COLUMN8);
        });
        test("NO: the SQUARE is its", () -> {
            HeapSquares x = bench(draw(".##", "##"));
            refused(x, NO, "grow", () -> x.grow(0, told(1, 0)));
            refused(x, NO, "grow", () -> x.grow(0, told(0, 1)));
            due("the one that isn't, at 0, 0", x.grow(0, told(0, 0)), 1);
        });
        test("NO: it wouldn't HANG TOGETHER", () -> {
            HeapSquares x = bench(TWO, draw(".#", "##"));
            refused(x, NO, "over a corner", () -> x.grow(0, told(2, 1)));
            refused(x, NO, "over the corner at -1, -1", () -> x.grow(0, told(-1, -1)));
            refused(x, NO, "two to the right", () -> x.grow(0, told(3, 0)));
            refused(x, NO, "two down", () -> x.grow(0, told(0, 2)));
            refused(x, NO, "far", () -> x.grow(0, told(7, 7)));
            refused(x, NO, "beside a gap", () -> x.grow(1, told(-1, 0)));
        });
        test("NO: has 8", () -> {
            HeapSquares x = bench(box(4, 2), RING);
            refused(x, NO, "below", () -> x.grow(0, told(0, 2)));
            refused(x, NO, "at the right", () -> x.grow(0, told(4, 1)));
            refused(x, NO, "the hole", () -> x.grow(1, told(1, 1)));
        });
    }

    private static void testGrowBeyond() {
        promise(11);
        test("NO: the SQUARE lies beyond -1 .. 8", () -> {
            HeapSquares x = bench(ROW8, COLUMN8, ONE);
            refused(x, NO, "x is 9", () -> x.grow(0, told(9, 0)));
            refused(x, NO, "y is 9", () -> x.grow(1, told(0, 9)));
            refused(x, NO, "x is 14", () -> x.grow(2, told(14, 0)));
            refused(x, NO, "y is -2", () -> x.grow(2, told(0, -2)));
            refused(x, NO, "-1", () -> x.grow(2, -1));
            refused(x, NO, "the least number", () -> x.grow(2, MIN));
            refused(x, NO, "the greatest number", () -> x.grow(2, MAX));
        });
        test("NO: a SQUARE beyond, though its last bits tell one that fits", () -> {
            HeapSquares x = bench(ONE);
            int fits = told(1, 0);
            for (int beyond : new int[] {fits + 256, fits - 256, fits + (1 << 16), fits + MIN, fits + (1 << 30)}) {
                refused(x, NO, "grow(0, " + beyond + ")", () -> x.grow(0, beyond));
            }
            due("the one that fits", x.grow(0, fits), 1);
        });
        test("NO: WIDE or HIGH would be above 8", () -> {
            HeapSquares x = bench(ROW8, COLUMN8);
            refused(x, NO, "at the right", () -> x.grow(0, told(8, 0)));
            refused(x, NO, "at the left", () -> x.grow(0, told(-1, 0)));
            refused(x, NO, "below", () -> x.grow(1, told(0, 8)));
            refused(x, NO, "above", () -> x.grow(1, told(0, -1)));
            refused(x, NO, "in the corner", () -> x.grow(0, told(8, 8)));
        });
        test("BEYOND", () -> {
            HeapSquares x = bench(TWO);
            for (int heap : NO_HEAPS) {
                refused(x, BEYOND, "grow(" + heap + ", 19)", () -> x.grow(heap, 19));
            }
            refused(x, BEYOND, "grow(1, 19)", () -> x.grow(1, 19));
        });
        test("FULL", () -> {
            HeapSquares x = full(TWO);
            refused(x, FULL, "grow(0, at the right)", () -> x.grow(0, told(2, 0)));
            due("drop()", x.drop(), 11);
            due("grow(0, at the right)", x.grow(0, told(2, 0)), 11);
        });
        test("of several refusals the first: BEYOND, NO, FULL", () -> {
            HeapSquares x = full(TWO);
            refused(x, BEYOND, "grow(12, -1)", () -> x.grow(12, -1));
            refused(x, BEYOND, "grow(-1, 19)", () -> x.grow(-1, 19));
            refused(x, NO, "grow(0, its own)", () -> x.grow(0, told(0, 0)));
            refused(x, NO, "grow(0, beyond)", () -> x.grow(0, told(9, 0)));
            refused(x, NO, "grow(0, apart)", () -> x.grow(0, told(3, 0)));
        });
    }

    private static void testPut() {
        promise(12);
        test("x, y -7 .. 7", () -> {
            HeapSquares x = bench(draw("#######"), ONE, draw("#", "#", "#", "#", "#", "#", "#"));
            due("put(0, 1, 7, 0)", x.put(0, 1, 7, 0), 3);
            due("put(1, 0, -7, 0)", x.put(1, 0, -7, 0), 4);
            due("put(2, 1, 0, 7)", x.put(2, 1, 0, 7), 5);
            due("put(1, 2, 0, -7)", x.put(1, 2, 0, -7), 6);
            due("set(3)", x.set(3), ROW8);
            due("set(4)", x.set(4), ROW8);
            due("set(5)", x.set(5), COLUMN8);
            due("set(6)", x.set(6), COLUMN8);
        });
        test("NO: x, y", () -> {
            HeapSquares x = bench(ROW8, ONE, COLUMN8);
            for (int far : new int[] {MIN, -8, 8, 16, MAX}) {
                refused(x, NO, "put(0, 1, " + far + ", 0)", () -> x.put(0, 1, far, 0));
                refused(x, NO, "put(2, 1, 0, " + far + ")", () -> x.put(2, 1, 0, far));
            }
        });
        test("NO: a move whose bits would wrap round", () -> {
            HeapSquares x = bench(ONE, TWO);
            refused(x, NO, "to the row ahead", () -> x.put(0, 0, 7, -1));
            refused(x, NO, "to the next row", () -> x.put(0, 0, -7, 1));
            refused(x, NO, "to the end of the next row", () -> x.put(1, 0, -1, 1));
        });
        test("NO: they cover one SQUARE", () -> {
            HeapSquares x = bench(TWO, CORNER);
            refused(x, NO, "put(0, 0, 0, 0)", () -> x.put(0, 0, 0, 0));
            refused(x, NO, "put(0, 0, 1, 0)", () -> x.put(0, 0, 1, 0));
            refused(x, NO, "put(0, 0, -1, 0)", () -> x.put(0, 0, -1, 0));
            refused(x, NO, "put(1, 0, 0, 1)", () -> x.put(1, 0, 0, 1));
        });
        test("a gap of the one may take the other", () -> {
            HeapSquares x = bench(draw("#.#", "###"), ONE, CORNER);
            due("put(0, 1, 1, 0)", x.put(0, 1, 1, 0), 3);
            due("set(3)", x.set(3), box(3, 2));
            due("put(2, 1, 1, 1)", x.put(2, 1, 1, 1), 4);
            due("set(4)", x.set(4), box(2, 2));
        });
        test("NO: they don't HANG TOGETHER", () -> {
            HeapSquares x = bench(TWO);
            refused(x, NO, "over a corner", () -> x.put(0, 0, 2, 1));
            refused(x, NO, "apart", () -> x.put(0, 0, 3, 0));
            refused(x, NO, "apart, up", () -> x.put(0, 0, 0, -2));
        });
        test("8 SQUARES together, NO: more", () -> {
            HeapSquares x = bench(draw("####"), draw("#####"), draw("###"));
            due("put(0, 0, 0, 1)", x.put(0, 0, 0, 1), 3);
            due("set(3)", x.set(3), box(4, 2));
            due("put(1, 2, -3, 0)", x.put(1, 2, -3, 0), 4);
            due("set(4)", x.set(4), ROW8);
            refused(x, NO, "9, one above the other", () -> x.put(0, 1, 0, 1));
            refused(x, NO, "16", () -> x.put(3, 3, 0, 2));
        });
        test("NO: WIDE or HIGH would be above 8", () -> {
            HeapSquares x = bench(draw("####"), draw("#####"), draw("#", "#", "#", "#"),
                draw("#", "#", "#", "#", "#"), ROW8, COLUMN8);
            refused(x, NO, "9 to the right", () -> x.put(0, 1, 4, 0));
            refused(x, NO, "9 to the left", () -> x.put(0, 1, -5, 0));
            refused(x, NO, "9 down", () -> x.put(2, 3, 0, 4));
            refused(x, NO, "9 up", () -> x.put(2, 3, 0, -5));
            refused(x, NO, "rows apart", () -> x.put(4, 4, 7, 7));
            refused(x, NO, "columns apart", () -> x.put(5, 5, -7, -7));
        });
        test("BEYOND, the one or the other", () -> {
            HeapSquares x = bench(TWO);
            for (int heap : NO_HEAPS) {
                refused(x, BEYOND, "put(" + heap + ", 0, 0, 1)", () -> x.put(heap, 0, 0, 1));
                refused(x, BEYOND, "put(0, " + heap + ", 0, 1)", () -> x.put(0, heap, 0, 1));
            }
            refused(x, BEYOND, "put(1, 0, 0, 1)", () -> x.put(1, 0, 0, 1));
            refused(x, BEYOND, "put(0, 1, 0, 1)", () -> x.put(0, 1, 0, 1));
        });
        test("FULL", () -> {
            HeapSquares x = full(TWO);
            refused(x, FULL, "put(0, 0, 0, 1)", () -> x.put(0, 0, 0, 1));
            due("drop()", x.drop(), 11);
            due("put(0, 0, 0, 1)", x.put(0, 0, 0, 1), 11);
        });
        test("of several refusals the first: BEYOND, NO, FULL", () -> {
            HeapSquares x = full(TWO);
            refused(x, BEYOND, "put(0, 12, 8, 0)", () -> x.put(0, 12, 8, 0));
            refused(x, BEYOND, "put(12, 0, 0, 0)", () -> x.put(12, 0, 0, 0));
            refused(x, NO, "put(0, 0, 8, 0)", () -> x.put(0, 0, 8, 0));
            refused(x, NO, "put(0, 0, 0, 0)", () -> x.put(0, 0, 0, 0));
            refused(x, NO, "put(0, 0, 3, 0)", () -> x.put(0, 0, 3, 0));
        });
    }
}
