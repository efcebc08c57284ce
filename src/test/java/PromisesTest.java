/**
 * Each promise of the document by itself: ordinary inputs, the edges that it names, and wrong inputs.
 * All numbers here were worked out by hand or are well known (how many heaps there are, how many layings).
 */
public final class PromisesTest {
    private static final int MIN = Integer.MIN_VALUE;
    private static final int MAX = Integer.MAX_VALUE;
    private static final int[] NO_HEAPS = {MIN, -2, -1, 12, 13, MAX};

    private static final long ONE = 1;
    private static final long TWO = 3;
    private static final long THREE = 7;
    private static final long CORNER = 259;
    private static final long LINE = 15;
    private static final long BLOCK = 771;
    private static final long L = 263;
    private static final long J = 1031;
    private static final long T = 519;
    private static final long S = 774;
    private static final long Z = 1539;
    private static final long U = 1287;
    private static final long C = 196867;
    private static final long PLUS = 132866;
    private static final long RING = 460039;

    private static int promise = 0;
    private static int wrong = 0;

    public static void main(String[] args) {
        promise1To4();
        promise5();
        promise6To9();
        promise10();
        promise11();
        promise12();
        promise13To14();
        promise15();
        promise16To18();
        promise19To20();
        promise21();
        promise22();
        promise23();
        promise24();
        promise25();
        promise26();
        promise27To30();
        promise31();
        System.out.println(wrong == 0 ? "all promises are kept" : wrong + " answers are not as due");
        if (wrong != 0) {
            System.exit(1);
        }
    }

    private static void due(String what, long got, long want) {
        if (got != want) {
            wrong++;
            System.out.println("promise " + promise + ", " + what + ": " + got + ", due is " + want);
        }
    }

    private static void due(String what, long[] got, long... want) {
        due(what + ", how many", got.length, want.length);
        for (int i = 0; i < got.length && i < want.length; i++) {
            due(what + ", number " + i, got[i], want[i]);
        }
    }

    private static HeapSquares bench(long... sets) {
        HeapSquares x = new HeapSquares();
        for (int i = 0; i < sets.length; i++) {
            due("heap(" + sets[i] + ")", x.heap(sets[i]), i);
        }
        return x;
    }

    /** A bench with a ground and with these sets as sorts, any number of copies each. */
    private static HeapSquares layings(long ground, long... sets) {
        HeapSquares x = bench(sets);
        x.ground(ground);
        for (int i = 0; i < sets.length; i++) {
            due("sort(" + i + ", -1)", x.sort(i, -1), i + 1);
        }
        return x;
    }

    private static long box(int wide, int high) {
        long box = 0;
        for (int y = 0; y < high; y++) {
            box |= (1L << wide) - 1 << 8 * y;
        }
        return box;
    }

    private static void promise1To4() {
        promise = 1;
        HeapSquares x = new HeapSquares();
        due("set(0)", x.set(0), 0);
        due("status(BEYOND)", x.status(-3), 1);
        due("unsort()", x.unsort(), 0);
        due("drop()", x.drop(), -2);
        due("tries()", x.tries(), 0);
        due("go()", x.go(), -2);
        due("colour(0, 1, 0)", x.colour(0, 1, 0), 0);
        due("all()", x.all(), 1);
        due("tear()", x.tear(), 0);
        due("status(MISSING)", x.status(-2), 2);
        due("status(NO)", x.status(-6), 0);

        promise = 2;
        x = bench(1L << 63, 3L << 62, 255L << 24, 0x8080808080808080L, 0x3F03L << 17, RING << 45 >>> 9);
        due("moved left and up", x.set(0), 1);
        due("moved, two", x.set(1), 3);
        due("moved, a row", x.set(2), 255);
        due("moved, a column", x.set(3), 0x0101010101010101L);
        due("moved, eight", x.set(4), 0x3F03);
        due("moved, a ring", x.set(5), RING);
        long[] no = {0, 511, -1, 513, 1L | 1L << 63, 1L << 7 | 1L << 8, 5, 257L << 1 | 1L << 25, 9L, 3L | 3L << 16};
        for (long set : no) {
            due("heap(" + set + ")", x.heap(set), -6);
        }
        for (int i = 6; i < 12; i++) {
            due("heap(7)", x.heap(THREE), i);
        }
        due("heap 12", x.heap(THREE), -7);
        due("heap 12, none", x.heap(0), -6);
        due("status(FULL)", x.status(-7), 1);
        due("status(NO)", x.status(-6), no.length + 1);

        promise = 3;
        due("drop()", x.drop(), 11);
        due("the dropped one", x.set(11), 0);
        due("heap(1)", x.heap(ONE), 11);
        due("the new one", x.set(11), 1);
        due("sort(10, 0)", x.sort(10, 0), 1);
        due("drop() of one that is none", x.drop(), 11);
        due("drop() of a sort", x.drop(), -6);
        due("drop() of a sort again", x.drop(), -6);
        due("set(10)", x.set(10), THREE);
        due("unsort()", x.unsort(), 1);
        for (int i = 10; i >= 0; i--) {
            due("drop()", x.drop(), i);
        }
        due("drop() of none", x.drop(), -2);

        promise = 4;
        x = bench(CORNER, PLUS << 10);
        due("set(0)", x.set(0), CORNER);
        due("set(1)", x.set(1), PLUS);
        due("set(2)", x.set(2), 0);
        for (int heap : NO_HEAPS) {
            due("set(" + heap + ")", x.set(heap), 0);
        }
        due("status(BEYOND)", x.status(-3), 1 + NO_HEAPS.length);
    }

    private static void promise5() {
        promise = 5;
        looks(ONE, 0, 1, 1, 1, 4, 1, 1, 0);
        looks(TWO, 0, 2, 2, 1, 6, 2, 2, 1);
        looks(CORNER, 0, 3, 2, 2, 8, 4, 4, 0);
        looks(LINE, 0, 4, 4, 1, 10, 2, 2, 1);
        looks(BLOCK, 0, 4, 2, 2, 8, 1, 1, 2);
        looks(L, 0, 4, 3, 2, 10, 4, 8, 1);
        looks(T, 1, 4, 3, 2, 10, 4, 4, 0);
        looks(1794, 1, 4, 3, 2, 10, 4, 4, 0);
        looks(S, 0, 4, 3, 2, 10, 2, 4, 1);
        looks(Z, 0, 4, 3, 2, 10, 2, 4, 1);
        looks(U, 2, 5, 3, 2, 12, 4, 4, 0);
        looks(C, 4, 5, 2, 3, 12, 4, 4, 0);
        looks(PLUS, 1, 5, 3, 3, 12, 1, 1, 0);
        looks(RING, 3, 8, 3, 3, 16, 1, 1, 4);
        // A ring that lacks its corner still has a hole; one that lacks a side has none.
        looks(RING - 1, 3, 7, 3, 3, 16, 4, 4, 0);
        looks(RING - 256, 4, 7, 3, 3, 16, 4, 4, 0);
        looks(RING - 1024, 4, 7, 3, 3, 16, 4, 4, 0);
        looks(RING - 2, 2, 7, 3, 3, 16, 4, 4, 0);
        // Open at the left: a gap in a column alone.
        looks(460295, 4, 8, 3, 3, 14, 4, 4, 0);
        looks(255, 0, 8, 8, 1, 18, 2, 2, 1);
        looks(0x0101010101010101L, 0, 8, 1, 8, 18, 2, 2, 1);
        // Two blocks, two lines, and two L's in two ways.
        looks(3855, 0, 8, 4, 2, 12, 2, 2, 4);
        HeapSquares x = bench(ONE);
        for (int what : new int[] {MIN, -1, 8, 9, MAX}) {
            due("look(0, " + what + ")", x.look(0, what), -6);
            due("look(1, " + what + ")", x.look(1, what), -3);
        }
        for (int heap : NO_HEAPS) {
            due("look(" + heap + ", 0)", x.look(heap, 0), -3);
        }
    }

    private static void looks(long set, int... want) {
        HeapSquares x = bench(set);
        for (int what = 0; what < want.length; what++) {
            due("look of " + set + ", " + what, x.look(0, what), want[what]);
        }
    }

    private static void promise6To9() {
        long[] turned = {263, 1796, 131587, 196865};
        long[] mirrored = {1031, 1793, 65795, 197122};
        long[] all = {263, 1031, 1793, 1796, 65795, 131587, 196865, 197122};
        HeapSquares x = bench(all);
        promise = 6;
        for (int heap = 0; heap < 8; heap++) {
            due("code(" + heap + ")", x.code(heap), L);
        }
        due("code(8)", x.code(8), 0);

        promise = 7;
        for (int heap = 0; heap < 8; heap++) {
            long[] without = x.set(heap) == 263 || x.set(heap) == 1796 || x.set(heap) == 131587
                || x.set(heap) == 196865 ? turned : mirrored;
            due("forms", forms(x, heap, true), all);
            due("forms without mirrors", forms(x, heap, false), without);
        }
        due("form(8, 0, true)", x.form(8, 0, true), 0);
        for (int i : new int[] {MIN, -1, 8, MAX}) {
            due("form(0, " + i + ", true)", x.form(0, i, true), 0);
        }
        due("form(0, 4, false)", x.form(0, 4, false), 0);
        due("status(BEYOND)", x.status(-3), 1 + 16 + 1 + 4 + 1);

        promise = 8;
        x = bench(ONE, TWO, THREE, LINE, BLOCK, L, PLUS, U, RING, RING - 1);
        // Of the ring without its corner all but the two ends.
        long[] cuts = {0, 0, 2, 6, 0, 3, 512, 7, 0, RING - 1 - 2 - 256};
        for (int heap = 0; heap < 10; heap++) {
            due("cuts(" + heap + ")", x.cuts(heap), cuts[heap]);
        }
        due("cuts(10)", x.cuts(10), 0);
        due("status(BEYOND)", x.status(-3), 1);

        promise = 9;
        x = bench(L, L << 20, 1796, J, T, BLOCK);
        due("same(0, 0)", x.same(0, 0), 2);
        due("same(0, 1)", x.same(0, 1), 2);
        due("same(0, 2)", x.same(0, 2), 1);
        due("same(3, 0)", x.same(3, 0), 1);
        due("same(0, 3)", x.same(0, 3), 1);
        due("same(0, 4)", x.same(0, 4), 0);
        due("same(5, 4)", x.same(5, 4), 0);
        for (int heap : NO_HEAPS) {
            due("same(0, " + heap + ")", x.same(0, heap), -3);
            due("same(" + heap + ", 0)", x.same(heap, 0), -3);
        }
        due("same(6, 6)", x.same(6, 6), -3);
    }

    private static long[] forms(HeapSquares x, int heap, boolean mirrors) {
        long[] forms = new long[16];
        int many = 0;
        long form = x.form(heap, 0, mirrors);
        while (form != 0 && many < 16) {
            forms[many] = form;
            many++;
            form = x.form(heap, many, mirrors);
        }
        return java.util.Arrays.copyOf(forms, many);
    }

    private static void promise10() {
        promise = 10;
        HeapSquares x = bench(L);
        long[] want = {263, 131587, 1796, 196865, 1031, 197122, 1793, 65795};
        for (int i = 0; i < 8; i++) {
            due("turn(0, " + i % 4 + ", " + (i > 3) + ")", x.turn(0, i % 4, i > 3), i + 1);
            due("turned", x.set(i + 1), want[i]);
        }
        for (int times : new int[] {MIN, -1, 4, MAX}) {
            due("turn(0, " + times + ", false)", x.turn(0, times, false), -6);
            due("turn(9, " + times + ", false)", x.turn(9, times, false), -3);
        }
        for (int heap : NO_HEAPS) {
            due("turn(" + heap + ", 0, false)", x.turn(heap, 0, false), -3);
        }
        due("turn(8, 1, true)", x.turn(8, 1, true), 9);
        due("turned", x.set(9), 1796);
        due("turn(0, 0, false)", x.turn(0, 0, false), 10);
        due("turn(0, 0, false)", x.turn(0, 0, false), 11);
        due("turn(0, 0, false), full", x.turn(0, 0, false), -7);
        due("turn(0, 4, false), full", x.turn(0, 4, false), -6);
        due("turn(12, 4, false), full", x.turn(12, 4, false), -3);
    }

    private static int told(int x, int y) {
        return 16 * (y + 1) + x + 1;
    }

    private static void promise11() {
        promise = 11;
        HeapSquares x = bench(CORNER);
        int[] squares = {told(2, 0), told(1, 1), told(0, 2), told(-1, 0), told(-1, 1), told(0, -1), told(1, -1)};
        long[] want = {263, 771, 65795, 519, 774, 1 | 3 << 8 | 1 << 16, 2 | 3 << 8 | 1 << 16};
        for (int i = 0; i < squares.length; i++) {
            due("grow(0, " + squares[i] + ")", x.grow(0, squares[i]), i + 1);
            due("grown", x.set(i + 1), want[i]);
        }
        int[] no = {told(0, 0), told(1, 0), told(0, 1), told(2, 1), told(-1, -1), told(2, 2), told(8, 8), told(8, 0),
            told(9, 0), told(0, 9), MIN, -1, -15, -16, 10, 16, 160, 170, 256 + 19, MAX};
        for (int square : no) {
            boolean fits = square == 16;
            due("grow(0, " + square + ")", x.grow(0, square), fits ? 8 : -6);
        }
        for (int heap : NO_HEAPS) {
            due("grow(" + heap + ", 19)", x.grow(heap, 19), -3);
        }
        due("grow(9, -1)", x.grow(9, -1), -3);
        x = bench(127, 255, 0x01010101010101L, RING - 1, 127L | 256);
        due("grow(0, 8 at the right)", x.grow(0, told(7, 0)), 5);
        due("a row of 8", x.set(5), 255);
        due("grow(0, at the left)", x.grow(0, told(-1, 0)), 6);
        due("a row of 8", x.set(6), 255);
        due("grow(1, at the right)", x.grow(1, told(8, 0)), -6);
        due("grow(1, at the left)", x.grow(1, told(-1, 0)), -6);
        due("grow(1, below)", x.grow(1, told(0, 1)), -6);
        due("grow(2, above)", x.grow(2, told(0, -1)), 7);
        due("a column of 8", x.set(7), 0x0101010101010101L);
        due("grow(2, below)", x.grow(2, told(0, 7)), 8);
        due("a column of 8", x.set(8), 0x0101010101010101L);
        due("grow(3, corner)", x.grow(3, told(0, 0)), 9);
        due("the ring", x.set(9), RING);
        due("grow(4, one more than 8)", x.grow(4, told(1, 1)), -6);
        due("grow(0, 7 and below)", x.grow(0, told(6, 1)), 10);
        due("grow(0, above)", x.grow(0, told(0, -1)), 11);
        due("moved down", x.set(11), 1 | 127L << 8);
        due("full", x.grow(0, told(1, 1)), -7);
        due("full, but no", x.grow(0, told(1, 2)), -6);
    }

    private static void promise12() {
        promise = 12;
        HeapSquares x = bench(TWO, CORNER, LINE, 31);
        due("put(0, 0, 0, 1)", x.put(0, 0, 0, 1), 4);
        due("a block", x.set(4), BLOCK);
        due("put(0, 1, 0, -2)", x.put(0, 1, 0, -2), 5);
        due("put above", x.set(5), 3 | 1 << 8 | 3 << 16);
        due("put(0, 1, -2, 0)", x.put(0, 1, -2, 0), 6);
        due("put at the left", x.set(6), 15 | 1 << 8);
        due("put(1, 0, 1, 1)", x.put(1, 0, 1, 1), 7);
        due("put below", x.set(7), 3 | 7 << 8);
        due("put(2, 2, 4, 0)", x.put(2, 2, 4, 0), 8);
        due("a row of 8", x.set(8), 255);
        due("put(2, 2, -4, 0)", x.put(2, 2, -4, 0), 9);
        due("a row of 8", x.set(9), 255);
        int[][] no = {{0, 0, 0, 0}, {0, 0, 1, 0}, {0, 0, 3, 0}, {0, 0, 2, 1}, {0, 0, 0, 2}, {1, 1, 1, -1}, {2, 3, 4, 0},
            {2, 3, 0, 1}, {3, 2, -4, 0}, {0, 0, 8, 0}, {0, 0, -8, 0}, {0, 0, 0, 8}, {0, 0, 0, -8}, {0, 0, MIN, 0},
            {0, 0, MAX, 0}, {0, 0, 0, MIN}, {0, 0, 0, MAX}, {0, 1, 0, -1}};
        for (int[] a : no) {
            due("put(" + a[0] + ", " + a[1] + ", " + a[2] + ", " + a[3] + ")", x.put(a[0], a[1], a[2], a[3]), -6);
        }
        for (int heap : NO_HEAPS) {
            due("put(" + heap + ", 0, 9, 0)", x.put(heap, 0, 9, 0), -3);
            due("put(0, " + heap + ", 9, 0)", x.put(0, heap, 9, 0), -3);
        }
        due("put(0, 0, 2, 0)", x.put(0, 0, 2, 0), 10);
        due("a line", x.set(10), LINE);
        due("put(0, 0, 1, 1)", x.put(0, 0, 1, 1), 11);
        due("a Z", x.set(11), Z);
        due("put(0, 0, -1, 1), full", x.put(0, 0, -1, 1), -7);
        due("put(0, 0, 0, 0), full", x.put(0, 0, 0, 0), -6);
        due("put(0, 12, 0, 0), full", x.put(0, 12, 0, 0), -3);
        x = bench(127, ONE, 0x01010101010101L, 257);
        due("put(0, 1, 7, 0)", x.put(0, 1, 7, 0), 4);
        due("put(1, 0, -7, 0)", x.put(1, 0, -7, 0), 5);
        due("a row of 8", x.set(5), 255);
        due("put(2, 1, 0, 7)", x.put(2, 1, 0, 7), 6);
        due("put(1, 2, 0, -7)", x.put(1, 2, 0, -7), 7);
        due("a column of 8", x.set(7), 0x0101010101010101L);
        // A column of 9 has no room, not even with its end cut off.
        due("put(2, 3, 0, 7)", x.put(2, 3, 0, 7), -6);
        due("put(2, 3, 0, -2)", x.put(2, 3, 0, -2), -6);
        due("put(3, 2, 0, 2)", x.put(3, 2, 0, 2), -6);
        due("put(3, 2, 0, -7)", x.put(3, 2, 0, -7), -6);
        due("put(0, 0, 7, 0)", x.put(0, 0, 7, 0), -6);
        due("grow(7, above)", x.grow(7, told(0, -1)), -6);
        due("grow(7, below)", x.grow(7, told(0, 8)), -6);
    }

    private static void promise13To14() {
        promise = 13;
        int[][] want = {{1, 2, 6, 19, 63, 216}, {1, 1, 2, 7, 18, 60}, {1, 1, 2, 5, 12, 35}};
        HeapSquares x = new HeapSquares();
        for (int n = 6; n >= 1; n--) {
            for (int how = 0; how < 3; how++) {
                due("count(" + n + ", " + how + ")", x.count(n, how), want[how][n - 1]);
            }
        }
        int[][] no = {{0, 0}, {-1, 0}, {7, 0}, {MIN, 0}, {MAX, 0}, {1, -1}, {1, 3}, {1, MIN}, {1, MAX}};
        for (int[] a : no) {
            due("count(" + a[0] + ", " + a[1] + ")", x.count(a[0], a[1]), -6);
        }
        due("status(NO)", x.status(-6), no.length);

        promise = 14;
        x = new HeapSquares();
        due("list of 4, by codes", listed(x, 4, 2), LINE, L, T, BLOCK, S);
        due("list of 4, by turns", listed(x, 4, 1), LINE, L, T, BLOCK, S, J, Z);
        due("list of 3", listed(x, 3, 0), 7, 259, 515, 769, 770, 65793);
        due("list of 2", listed(x, 2, 0), 3, 257);
        due("list of 3, by turns", listed(x, 3, 1), 7, 259);
        due("list of 1", listed(x, 1, 0), 1);
        due("status(BEYOND)", x.status(-3), 6);
        for (int[] a : no) {
            due("list(" + a[0] + ", " + a[1] + ", -1)", x.list(a[0], a[1], -1), 0);
        }
        due("status(NO)", x.status(-6), no.length);
        for (int i : new int[] {MIN, -1, 216, MAX}) {
            due("list(6, 0, " + i + ")", x.list(6, 0, i), 0);
        }
        due("status(BEYOND)", x.status(-3), 10);
        due("list(6, 0, 215)", x.list(6, 0, 215), 1103823438081L);
        due("list(6, 0, 0)", x.list(6, 0, 0), 63);
        for (int i = 1; i < 216; i++) {
            due("list of 6 in order, " + i, x.list(6, 0, i - 1) < x.list(6, 0, i) ? 1 : 0, 1);
        }
    }

    private static long[] listed(HeapSquares x, int n, int how) {
        long[] listed = new long[300];
        int many = 0;
        long set = x.list(n, how, 0);
        while (set != 0 && many < 300) {
            listed[many] = set;
            many++;
            set = x.list(n, how, many);
        }
        return java.util.Arrays.copyOf(listed, many);
    }

    private static void promise15() {
        promise = 15;
        HeapSquares x = bench(J, 131587, S << 9, 65793, 255, 127, ONE);
        due("rank(0, 1)", x.rank(0, 1), 5);
        due("rank(0, 2)", x.rank(0, 2), 1);
        due("rank(1, 1)", x.rank(1, 1), 1);
        due("rank(1, 2)", x.rank(1, 2), 1);
        due("rank(2, 0), in the list", x.list(4, 0, x.rank(2, 0)), S);
        due("rank(2, 1)", x.rank(2, 1), 4);
        due("rank(3, 0)", x.rank(3, 0), 5);
        due("rank(3, 1)", x.rank(3, 1), 0);
        due("rank(6, 0)", x.rank(6, 0), 0);
        for (int how : new int[] {MIN, -1, 3, MAX}) {
            due("rank(0, " + how + ")", x.rank(0, how), -6);
            due("rank(7, " + how + ")", x.rank(7, how), -3);
        }
        for (int how = 0; how < 3; how++) {
            due("rank of 8", x.rank(4, how), -6);
            due("rank of 7", x.rank(5, how), -6);
        }
        for (int heap : NO_HEAPS) {
            due("rank(" + heap + ", 0)", x.rank(heap, 0), -3);
        }
        x = new HeapSquares();
        for (int i = 0; i < 100; i++) {
            x.heap(x.list(6, 0, 2 * i));
            due("rank of list " + 2 * i, x.rank(0, 0), 2 * i);
            x.drop();
        }
    }

    private static void promise16To18() {
        promise = 16;
        HeapSquares x = layings(BLOCK, TWO);
        due("ground(0)", x.ground(0), 0);
        due("ground(-1)", x.ground(-1), 64);
        due("ground(MIN)", x.ground(Long.MIN_VALUE), 1);
        due("ground(far apart)", x.ground(1L | 1L << 63), 2);
        due("colour of the new one", x.colour(0, 8, 7), 1);
        due("first()", x.first(), 0);
        due("ground(two)", x.ground(3L << 62), 2);
        due("first()", x.first(), 1);

        promise = 17;
        x = bench(ONE, TWO);
        x.ground(LINE);
        due("sort(1, 1)", x.sort(1, 1), 1);
        due("one copy is too few", x.first(), 0);
        due("sort(1, 0)", x.sort(1, 0), 2);
        due("none more", x.first(), 0);
        due("sort(1, 64)", x.sort(1, 64), 3);
        due("two layings: one of either, or two of the third", x.all(), 3);
        for (int copies : new int[] {MIN, -2, 65, MAX}) {
            due("sort(0, " + copies + ")", x.sort(0, copies), -6);
            due("sort(2, " + copies + ")", x.sort(2, copies), -3);
        }
        for (int heap : NO_HEAPS) {
            due("sort(" + heap + ", 1)", x.sort(heap, 1), -3);
        }
        due("sort(0, -1)", x.sort(0, -1), 4);
        due("sort(0, 1)", x.sort(0, 1), -7);
        due("sort(0, 65)", x.sort(0, 65), -6);
        due("sort(2, 65)", x.sort(2, 65), -3);

        promise = 18;
        due("first()", x.first(), 1);
        due("unsort()", x.unsort(), 4);
        due("laid(-1, 0)", x.laid(-1, 0), -2);
        due("first()", x.first(), 0);
        due("unsort()", x.unsort(), 0);
        due("sort(0, 4)", x.sort(0, 4), 1);
        due("first()", x.first(), 1);
        due("sort(0, 4) of a greater ground", x.ground(31), 5);
        due("first()", x.first(), 0);
    }

    private static void promise19To20() {
        promise = 19;
        HeapSquares x = layings(BLOCK, TWO);
        due("first()", x.first(), 1);
        due("tries()", x.tries(), 2);
        due("first() again", x.first(), 1);
        due("tries() again", x.tries(), 2);
        // Beyond the right side and the lower side nothing is ground.
        due("ground", x.ground(1L << 7 | 1L << 8), 2);
        due("first() round the side", x.first(), 0);
        due("tries()", x.tries(), 2);
        due("ground", x.ground(1L << 63), 1);
        due("first() below", x.first(), 0);
        due("tries()", x.tries(), 2);
        due("ground", x.ground(1L << 7 | 1L << 15), 2);
        due("first() down", x.first(), 1);
        due("tries()", x.tries(), 2);
        due("laid(0, 2)", x.laid(0, 2), 1);
        // A form whose least square isn't its left one, at the left side.
        x = layings(S, S);
        due("first()", x.first(), 1);
        due("tries()", x.tries(), 1);
        due("laid(0, 1)", x.laid(0, 1), 1);
        due("laid(0, 2)", x.laid(0, 2), 0);
        due("ground", x.ground(BLOCK), 4);
        due("first()", x.first(), 0);
        due("tries()", x.tries(), 4);
        // No try is made of a sort that has no copies left.
        x = bench(TWO);
        x.ground(LINE);
        x.sort(0, 1);
        due("first()", x.first(), 0);
        due("tries()", x.tries(), 2);

        // L's alone on a ground that takes 100000 tries, no more and no less, in vain.
        x = layings(35817137800970111L, L);
        due("first(), 100000 tries", x.first(), 0);
        due("tries()", x.tries(), 100000);
        due("status(SPENT)", x.status(-8), 0);
        x = layings(140185575587711L, 775, 782);
        due("first(), 100000 tries", x.first(), 0);
        due("tries()", x.tries(), 100000);
        // Two rings fit in side by side, the third one reaches beyond the side.
        x = layings(-1L, RING);
        due("first(), of rings", x.first(), 0);
        due("tries()", x.tries(), 3);
        x = layings(box(8, 7) & ~2L, S, T);
        due("first(), spent", x.first(), -8);
        due("tries()", x.tries(), 100000);
        due("go()", x.go(), -2);
        due("status(SPENT)", x.status(-8), 1);

        promise = 20;
        x = layings(BLOCK, TWO);
        due("go() ahead of first()", x.go(), -2);
        due("first()", x.first(), 1);
        due("go()", x.go(), 1);
        due("tries()", x.tries(), 6);
        due("go() behind the last", x.go(), 0);
        due("tries()", x.tries(), 6);
        due("go() behind none", x.go(), -2);
        due("tries()", x.tries(), 6);
        due("first()", x.first(), 1);
        due("ground()", x.ground(BLOCK), 4);
        due("go() behind ground()", x.go(), -2);
        due("first()", x.first(), 1);
        due("sort(1, 1) is refused", x.sort(1, 1), -3);
        due("go() behind it", x.go(), 1);
        due("sort(0, 1)", x.sort(0, 1), 2);
        due("go() behind sort()", x.go(), -2);
        due("first()", x.first(), 1);
        due("drop() is refused", x.drop(), -6);
        due("go() behind it", x.go(), 1);
        due("unsort()", x.unsort(), 2);
        due("go() behind unsort()", x.go(), -2);
        // The empty ground is covered at once, and just once.
        x = layings(0, TWO);
        due("first()", x.first(), 1);
        due("go()", x.go(), 0);
        due("go()", x.go(), -2);
        x = layings(72057594029539327L, T, 271);
        due("first()", x.first(), 1);
        due("tries(), fewer than 100000", x.tries() < 100000 ? 1 : 0, 1);
        due("go()", x.go(), 1);
        due("go(), spent", x.go(), -8);
        due("tries()", x.tries(), 100000);
        due("go() behind it", x.go(), -2);
        due("laid() behind it", x.laid(-1, 0), -2);
    }

    private static void promise21() {
        promise = 21;
        int[][] want = {{2, 2, 2}, {4, 4, 36}, {6, 6, 6728}, {8, 8, -8}, {3, 3, 0}, {8, 2, 34},
            {2, 8, 34}, {1, 1, 0}};
        for (int[] a : want) {
            HeapSquares x = layings(box(a[0], a[1]), TWO);
            due("twos on " + a[0] + " by " + a[1], x.all(), a[2]);
        }
        HeapSquares x = layings(BLOCK, TWO);
        due("all()", x.all(), 2);
        due("laid() is still missing", x.laid(-1, 0), -2);
        due("first()", x.first(), 1);
        due("all()", x.all(), 2);
        due("tries()", x.tries(), 6);
        due("laid() stays", x.laid(1, 1), 8);
        due("go()", x.go(), 1);
        due("tries() of go()", x.tries(), 6);
        due("laid()", x.laid(1, 1), 1);
        x = layings(box(6, 6), TWO, ONE);
        due("first()", x.first(), 1);
        due("all(), spent", x.all(), -8);
        due("tries()", x.tries(), 100000);
        due("laid() stays", x.laid(-1, 0), 18);
        due("go()", x.go(), 1);
        due("tries() of go()", x.tries() < 100000 ? 1 : 0, 1);
        due("status(SPENT)", x.status(-8), 1);
        // Two sorts that are alike are two sorts all the same.
        x = layings(TWO, ONE, ONE);
        due("all()", x.all(), 4);
        x = layings(35817137800970111L, L);
        due("all(), 100000 tries", x.all(), 0);
        x = bench(T, 66310, L, CORNER);
        x.ground(8224639);
        x.sort(0, -1);
        x.sort(1, -1);
        x.sort(2, 7);
        x.sort(3, -1);
        due("all(), 100000 tries", x.all(), 71);
        due("tries()", x.tries(), 100000);
        x = new HeapSquares();
        due("all() of nothing", x.all(), 1);
        x.ground(1);
        due("all() without sorts", x.all(), 0);
        due("tries()", x.tries(), 0);
    }

    private static void promise22() {
        promise = 22;
        HeapSquares x = layings(BLOCK, TWO);
        due("tries() ahead of any", x.tries(), 0);
        x.go();
        due("tries() behind go(), missing", x.tries(), 0);
        x.all();
        due("tries() of all()", x.tries(), 6);
        x.first();
        due("tries() of first()", x.tries(), 2);
        x.all();
        due("tries() of all()", x.tries(), 6);
        x.go();
        due("tries() of go()", x.tries(), 6);
        x.first();
        x.ground(0);
        due("tries() behind ground()", x.tries(), 2);
        x.go();
        due("tries() behind go(), missing", x.tries(), 2);
        x.square(0);
        due("tries() behind square()", x.tries(), 2);
        x.strip(2, 2);
        due("tries() behind strip()", x.tries(), 2);
        x.unsort();
        due("tries() behind unsort()", x.tries(), 2);
        x.first();
        due("tries() of an empty ground", x.tries(), 0);
        x = layings(box(4, 4), TWO);
        x.all();
        due("tries() on 4 by 4", x.tries(), 220);
    }

    private static void promise23() {
        promise = 23;
        HeapSquares x = bench(ONE, L);
        due("laid() ahead of first()", x.laid(0, 9), -2);
        x.ground(L << 53 | 1L);
        x.sort(0, 1);
        x.sort(1, -1);
        due("first()", x.first(), 1);
        for (int what : new int[] {MIN, -1, 0, 1, 2, 3, MAX}) {
            due("laid(NONE, " + what + ")", x.laid(-1, what), 2);
            due("laid(2, " + what + ")", x.laid(2, what), -3);
            due("laid(-2, " + what + ")", x.laid(-2, what), -3);
        }
        due("laid(MIN, 0)", x.laid(MIN, 0), -3);
        due("laid(MAX, 0)", x.laid(MAX, 0), -3);
        long[] want = {0, 0, 0, 1, 53, 0};
        for (int i = 0; i < 6; i++) {
            due("laid(" + i / 3 + ", " + i % 3 + ")", x.laid(i / 3, i % 3), want[i]);
        }
        for (int what : new int[] {MIN, -1, 3, MAX}) {
            due("laid(0, " + what + ")", x.laid(0, what), -6);
        }
        due("go()", x.go(), 0);
        due("laid(-1, 0)", x.laid(-1, 0), -2);
        // Which form: all eight of an L, each on a ground of its own, with mirrors.
        long[] forms = {263, 1031, 1793, 1796, 65795, 131587, 196865, 197122};
        x = layings(0, J);
        for (int i = 0; i < 8; i++) {
            x.ground(forms[i] << 36);
            due("first()", x.first(), 1);
            due("laid(0, 2)", x.laid(0, 2), i);
            due("laid(0, 1)", x.laid(0, 1), Long.numberOfTrailingZeros(forms[i]) + 36);
            due("tries()", x.tries(), i + 1);
        }
        x = layings(0, ONE);
        due("first()", x.first(), 1);
        due("laid(-1, 0)", x.laid(-1, 0), 0);
        due("laid(0, 0)", x.laid(0, 0), -3);
    }

    private static void promise24() {
        promise = 24;
        HeapSquares x = new HeapSquares();
        x.ground(-1L);
        due("colour(0, 1, 0)", x.colour(0, 1, 0), 64);
        due("colour(1, 2, 0)", x.colour(1, 2, 0), 32);
        due("colour(0, 9, 8)", x.colour(0, 9, 8), 0);
        due("colour(0, 9, 7)", x.colour(0, 9, 7), 8);
        due("colour(1, 3, 0)", x.colour(1, 3, 0), 21);
        due("colour(1, 3, 1)", x.colour(1, 3, 1), 22);
        due("colour(1, 3, 2)", x.colour(1, 3, 2), 21);
        x.ground(1L << 63 | 1L << 8 | 1L << 2);
        due("colour(8, 9, 0)", x.colour(8, 9, 0), 1);
        due("colour(8, 9, 8)", x.colour(8, 9, 8), 1);
        due("colour(8, 9, 2)", x.colour(8, 9, 2), 1);
        due("colour(3, 5, 3)", x.colour(3, 5, 3), 2);
        int[][] no = {{0, 0, 0}, {0, -1, 0}, {0, 10, 0}, {-1, 2, 0}, {9, 2, 0}, {0, 2, -1}, {0, 2, 2}, {MIN, 2, 0},
            {MAX, 2, 0}, {0, MIN, 0}, {0, MAX, 0}, {0, 2, MIN}, {0, 2, MAX}, {0, 9, 9}};
        for (int[] a : no) {
            due("colour(" + a[0] + ", " + a[1] + ", " + a[2] + ")", x.colour(a[0], a[1], a[2]), -6);
        }
        due("status(NO)", x.status(-6), no.length);
    }

    private static void promise25() {
        promise = 25;
        long[] sets = {ONE, TWO, THREE, CORNER, LINE, BLOCK, L, T, S, PLUS, 31, 1799, 127, 3855, 255};
        int[] want = {1, 2, 3, 6, 4, 2, 4, 4, -1, -1, 5, 6, -1, 4, -1};
        for (int i = 0; i < sets.length; i++) {
            HeapSquares x = bench(sets[i]);
            due("square of " + sets[i], x.square(0), want[i]);
        }
        HeapSquares x = layings(BLOCK, TWO);
        x.heap(L);
        x.first();
        due("square(1), sorts aside", x.square(1), 4);
        due("tries() stays", x.tries(), 2);
        due("the laying stays", x.laid(1, 1), 8);
        due("go()", x.go(), 1);
        due("the ground stays", x.all(), 2);
        due("the sorts stay", x.unsort(), 1);
        due("square(2)", x.square(2), -3);
        for (int heap : NO_HEAPS) {
            due("square(" + heap + ")", x.square(heap), -3);
        }
        due("status(BEYOND)", x.status(-3), 1 + NO_HEAPS.length);
    }

    private static void promise26() {
        promise = 26;
        HeapSquares x = layings(0, TWO);
        long[][] want = {{1, 0, 1, 0, 1, 0, 1}, {1, 1, 2, 3, 5, 8, 13}, {1, 0, 3, 0, 11, 0, 41}, {1, 1, 5, 11, 36, 95, 281}};
        for (int w = 1; w <= 4; w++) {
            for (int n = 0; n < 7; n++) {
                due("twos on " + w + " by " + n, x.strip(w, n), want[w - 1][n]);
            }
        }
        due("twos on 2 by 20", x.strip(2, 20), 10946);
        due("twos on 4 by 20", x.strip(4, 20), 616891945L);
        int[][] no = {{0, 1}, {5, 1}, {-1, 1}, {MIN, 1}, {MAX, 1}, {1, -1}, {1, 21}, {1, MIN}, {1, MAX}};
        for (int[] a : no) {
            due("strip(" + a[0] + ", " + a[1] + ")", x.strip(a[0], a[1]), 0);
        }
        due("status(NO)", x.status(-6), no.length);
        // The longest forms, and the counts of copies told for tries don't matter.
        x = bench(LINE, L, 31, 0x0101010101L, ONE);
        x.sort(0, 0);
        due("fours on 4 by 4", x.strip(4, 4), 2);
        due("fours on 4 by 7", x.strip(4, 7), 5);
        due("fours on 3 by 4", x.strip(3, 4), 1);
        x.sort(1, 1);
        due("fours and L's on 2 by 4", x.strip(2, 4), 3);
        x.sort(2, 0);
        due("a sort that is too wide", x.strip(2, 4), 0);
        due("status(NO)", x.status(-6), 1);
        due("too wide for no columns", x.strip(2, 0), 0);
        due("status(NO)", x.status(-6), 2);
        x.unsort();
        x.sort(3, -1);
        due("a sort that is too high", x.strip(2, 4), 0);
        due("status(NO)", x.status(-6), 3);
        x.unsort();
        due("without sorts", x.strip(2, 4), 0);
        due("without sorts and columns", x.strip(2, 0), 1);
        due("status(NO)", x.status(-6), 3);
        // Sorts with eight forms each, on a strip and on a ground.
        HeapSquares z = layings(0, 775, 527, L, 3847);
        for (int w = 1; w <= 4; w++) {
            for (int n = 1; n <= 4; n++) {
                z.ground(box(n, w));
                due("as many as all() on " + w + " by " + n, z.strip(w, n), z.all());
            }
        }
        z = layings(0, 0x01010101L);
        due("a sort that is high 4", z.strip(4, 4), 2);
        due("status(NO)", z.status(-6), 0);
        // Sorts that are alike are counted apart: powers of 4 up to 10 to the power of 15.
        for (int i = 0; i < 4; i++) {
            x.sort(4, 1);
        }
        due("4 to the power of 24", x.strip(4, 6), 1L << 48);
        due("4 to the power of 24", x.strip(2, 12), 1L << 48);
        due("status(FULL)", x.status(-7), 0);
        due("4 to the power of 26", x.strip(2, 13), 0);
        due("4 to the power of 32, which wraps round", x.strip(4, 8), 0);
        due("4 to the power of 80", x.strip(4, 20), 0);
        due("status(FULL)", x.status(-7), 3);
        due("status(NO)", x.status(-6), 3);
        due("w is told ahead", x.strip(5, 20), 0);
        due("status(NO)", x.status(-6), 4);
    }

    private static void promise27To30() {
        promise = 27;
        HeapSquares x = bench(J, 0x0101010101010101L, 255L, 0x0203L << 8 | 1L << 25);
        due("row(0), missing", x.row(0), -2);
        due("lay(0)", x.lay(0), 2);
        due("row(0)", x.row(0), 3);
        due("row(1)", x.row(1), 1);
        due("lay(2)", x.lay(2), 1);
        due("row(0)", x.row(0), 8);
        due("row(1)", x.row(1), -3);
        due("lay(3)", x.lay(3), 3);
        for (int heap : NO_HEAPS) {
            due("lay(" + heap + ")", x.lay(heap), -3);
        }
        due("lay(4)", x.lay(4), -3);
        due("the row stays", x.row(0), 2);
        due("lay(1)", x.lay(1), 8);
        due("row(7)", x.row(7), 1);

        promise = 28;
        due("tear()", x.tear(), 1);
        due("tear()", x.tear(), 0);
        due("row(0)", x.row(0), -2);
        due("copy(0, 0, 0)", x.copy(0, 0, 0), -2);
        due("copy(0, 0, -1)", x.copy(0, 0, -1), -2);

        promise = 29;
        x.lay(1);
        for (int i : new int[] {MIN, -1, 8, MAX}) {
            due("row(" + i + ")", x.row(i), -3);
        }
        x.lay(0);
        due("row(2), of an older row", x.row(2), -3);

        promise = 30;
        // Rows of 4, 1, 2, 1.
        x = bench(15L | 1L << 8 | 3L << 16 | 2L << 24);
        due("lay(0)", x.lay(0), 4);
        due("copy(0, 1, 3)", x.copy(0, 1, 3), 3);
        due("the row", rows(x), 4, 4, 1, 2);
        due("copy(1, 0, 3)", x.copy(1, 0, 3), 3);
        due("the row", rows(x), 4, 1, 2, 2);
        due("copy(0, 0, 4)", x.copy(0, 0, 4), 4);
        due("the row", rows(x), 4, 1, 2, 2);
        due("copy(0, 3, 1)", x.copy(0, 3, 1), 1);
        due("the row", rows(x), 4, 1, 2, 4);
        due("copy(4, 0, 0)", x.copy(4, 0, 0), 0);
        due("copy(0, 4, 0)", x.copy(0, 4, 0), 0);
        int[][] no = {{-1, 0, 1}, {0, -1, 1}, {0, 1, 4}, {1, 0, 4}, {0, 0, 5}, {5, 0, 0}, {0, 5, 0}, {4, 0, 1}, {0, 4, 1},
            {MAX, 0, 1}, {0, MAX, 1}, {MAX, MAX, MAX}, {0, 0, MAX}, {1, 0, MAX}, {MIN, 0, 0}, {0, MIN, 0}, {-1, 0, 0}};
        for (int[] a : no) {
            due("copy(" + a[0] + ", " + a[1] + ", " + a[2] + ")", x.copy(a[0], a[1], a[2]), -5);
        }
        due("copy(0, 0, -1)", x.copy(0, 0, -1), -4);
        due("copy(-1, 9, MIN)", x.copy(-1, 9, MIN), -4);
        due("the row", rows(x), 4, 1, 2, 4);
        due("the heap stays", x.set(0), 15L | 1L << 8 | 3L << 16 | 2L << 24);
        due("lay(0)", x.lay(0), 4);
        due("the row anew", rows(x), 4, 1, 2, 1);
    }

    private static long[] rows(HeapSquares x) {
        return new long[] {x.row(0), x.row(1), x.row(2), x.row(3)};
    }

    private static void promise31() {
        promise = 31;
        HeapSquares x = new HeapSquares();
        for (int by = -8; by <= -2; by++) {
            due("status(" + by + ")", x.status(by), 0);
        }
        for (int by : new int[] {MIN, -9, -1, 0, 1, MAX}) {
            due("status(" + by + ")", x.status(by), -6);
        }
        due("status(NO)", x.status(-6), 6);
        x.heap(TWO);
        // Each call that tells a long, refused once.
        x.set(1);
        x.code(1);
        x.form(1, 0, true);
        x.form(0, 2, true);
        x.cuts(1);
        x.list(1, 0, 1);
        due("status(BEYOND)", x.status(-3), 6);
        x.list(7, 0, 0);
        x.strip(0, 0);
        due("status(NO)", x.status(-6), 8);
        x.row(0);
        x.go();
        x.laid(0, 0);
        due("status(MISSING)", x.status(-2), 3);
        x.lay(0);
        x.copy(0, 0, -1);
        due("status(BELOW)", x.status(-4), 1);
        x.copy(0, 0, 2);
        x.copy(0, 2, 0);
        due("status(COPY)", x.status(-5), 2);
        for (int i = 0; i < 13; i++) {
            x.heap(ONE);
        }
        due("status(FULL)", x.status(-7), 2);
        due("status(SPENT)", x.status(-8), 0);
        x.ground(-1L);
        x.sort(0, -1);
        x.sort(1, -1);
        x.all();
        due("status(SPENT)", x.status(-8), 1);
        x.heap(S);
        x.drop();
        x.heap(S);
        due("square(11), which is none", x.square(11), -1);
        due("status(BEYOND)", x.status(-3), 6);
        due("status(MISSING)", x.status(-2), 3);
        due("status(NO)", x.status(-6), 8);
        due("status(FULL)", x.status(-7), 3);
    }
}
