/**
 * A bench for heaps: squares that hang together side by side.
 *
 * What it promises stands in DOC.md; a square x, y is bit 8 y + x of a long everywhere in here.
 */
public final class HeapSquares {
    public static final int NONE = -1;
    public static final int MISSING = -2;
    public static final int BEYOND = -3;
    public static final int BELOW = -4;
    public static final int COPY = -5;
    public static final int NO = -6;
    public static final int FULL = -7;
    public static final int SPENT = -8;

    private static final int MOST_HEAPS = 12;
    private static final int MOST_SQUARES = 8;
    private static final int TURNS = 4;
    private static final int MOST_FORMS = 2 * TURNS;
    private static final int MOST_SORTS = 4;
    private static final int MOST_COPIES = 64;
    private static final int SIDE = 8;
    private static final int BITS = SIDE * SIDE;
    private static final int LARGEST_LIST = 6;
    private static final int LARGEST_SQUARE = 6;
    private static final int STRIP_ROWS = 4;
    private static final int STRIP_COLUMNS = 20;

    private final long[] heaps = new long[MOST_HEAPS];
    private int heapCount = 0;
    private final Lists lists = new Lists();

    private long area = 0;
    private final int[] sortHeap = new int[MOST_SORTS];
    private final int[] sortCopies = new int[MOST_SORTS];
    private int sortCount = 0;

    // Two of them, as all() and square() must leave alone what first() and go() found.
    private final Tries kept = new Tries();
    private final Tries aside = new Tries();
    private boolean found = false;
    private int triesTold = 0;
    private final StripCount stripCount = new StripCount();

    private final int[] numbers = new int[SIDE];
    private int numberCount = 0;
    private boolean rowThere = false;

    private final long[] forms = new long[MOST_FORMS];
    private final int[] refusals = new int[1 - SPENT];

    public HeapSquares() {
    }

    // ---- heaps

    public int heap(long set) {
        if (!Sets.isHeap(set)) {
            return refuse(NO);
        }
        return addHeap(Sets.leftUp(set));
    }

    public int drop() {
        if (heapCount == 0) {
            return refuse(MISSING);
        }
        for (int i = 0; i < sortCount && i < MOST_SORTS; i++) {
            if (sortHeap[i] == heapCount - 1) {
                return refuse(NO);
            }
        }
        heapCount--;
        return heapCount;
    }

    public long set(int heap) {
        if (!isThere(heap)) {
            return refuseLong(BEYOND);
        }
        return heaps[heap];
    }

    public int look(int heap, int what) {
        if (!isThere(heap)) {
            return refuse(BEYOND);
        }
        long set = heaps[heap];
        switch (what) {
            case 0:
                return Sets.kind(set);
            case 1:
                return Long.bitCount(set);
            case 2:
                return Sets.wide(set);
            case 3:
                return Sets.high(set);
            case 4:
                return Sets.rim(set);
            case 5:
                return Sets.formsInto(forms, set, false);
            case 6:
                return Sets.formsInto(forms, set, true);
            case 7:
                return Sets.halves(set);
            default:
                return refuse(NO);
        }
    }

    public long code(int heap) {
        if (!isThere(heap)) {
            return refuseLong(BEYOND);
        }
        return Sets.leastForm(heaps[heap], true);
    }

    public long form(int heap, int i, boolean mirrors) {
        if (!isThere(heap)) {
            return refuseLong(BEYOND);
        }
        int many = Sets.formsInto(forms, heaps[heap], mirrors);
        if (i < 0 || i >= many || i >= MOST_FORMS) {
            return refuseLong(BEYOND);
        }
        return forms[i];
    }

    public long cuts(int heap) {
        if (!isThere(heap)) {
            return refuseLong(BEYOND);
        }
        return Sets.cutsOf(heaps[heap]);
    }

    public int same(int heap, int other) {
        if (!isThere(heap) || !isThere(other)) {
            return refuse(BEYOND);
        }
        if (heaps[heap] == heaps[other]) {
            return 2;
        }
        return Sets.leastForm(heaps[heap], true) == Sets.leastForm(heaps[other], true) ? 1 : 0;
    }

    public int turn(int heap, int times, boolean mirrored) {
        if (!isThere(heap)) {
            return refuse(BEYOND);
        }
        if (times < 0 || times >= TURNS) {
            return refuse(NO);
        }
        long turned = mirrored ? Sets.mirror(heaps[heap]) : heaps[heap];
        for (int i = 0; i < times; i++) {
            turned = Sets.quarter(turned);
        }
        return addHeap(turned);
    }

    public int grow(int heap, int square) {
        if (!isThere(heap)) {
            return refuse(BEYOND);
        }
        int x = (square & 15) - 1;
        int y = (square >> 4) - 1;
        if (x > SIDE || y < -1 || y > SIDE) {
            return refuse(NO);
        }
        return addTogether(heaps[heap], 1L, x, y);
    }

    public int put(int heap, int other, int x, int y) {
        if (!isThere(heap) || !isThere(other)) {
            return refuse(BEYOND);
        }
        if (x < 1 - SIDE || x > SIDE - 1 || y < 1 - SIDE || y > SIDE - 1) {
            return refuse(NO);
        }
        return addTogether(heaps[heap], heaps[other], x, y);
    }

    // ---- lists

    public int count(int n, int how) {
        HeapList listed = lists.of(n, how);
        if (listed == null) {
            return refuse(NO);
        }
        return listed.length();
    }

    public long list(int n, int how, int i) {
        HeapList listed = lists.of(n, how);
        if (listed == null) {
            return refuseLong(NO);
        }
        if (i < 0 || i >= listed.length()) {
            return refuseLong(BEYOND);
        }
        return listed.at(i);
    }

    public int rank(int heap, int how) {
        if (!isThere(heap)) {
            return refuse(BEYOND);
        }
        long set = heaps[heap];
        HeapList listed = lists.of(Long.bitCount(set), how);
        if (listed == null) {
            return refuse(NO);
        }
        return listed.placeOf(how == 0 ? set : Sets.leastForm(set, how == 2));
    }

    // ---- layings

    public int ground(long set) {
        area = set;
        found = false;
        return Long.bitCount(set);
    }

    public int sort(int heap, int copies) {
        if (!isThere(heap)) {
            return refuse(BEYOND);
        }
        if (copies < -1 || copies > MOST_COPIES) {
            return refuse(NO);
        }
        if (sortCount >= MOST_SORTS) {
            return refuse(FULL);
        }
        sortHeap[sortCount] = heap;
        sortCopies[sortCount] = copies;
        sortCount++;
        found = false;
        return sortCount;
    }

    public int unsort() {
        int were = sortCount;
        sortCount = 0;
        found = false;
        return were;
    }

    public int first() {
        loadSorts(kept);
        return seek();
    }

    public int go() {
        if (!found) {
            return refuse(MISSING);
        }
        return seek();
    }

    public int all() {
        loadSorts(aside);
        int layings = 0;
        int answer = aside.next();
        // Each laying but that of an empty ground ends with a try of its own.
        while (answer == 1 && layings <= Tries.MOST) {
            layings++;
            answer = aside.next();
        }
        triesTold = aside.made();
        return answer == SPENT ? refuse(SPENT) : layings;
    }

    public int tries() {
        return triesTold;
    }

    public int laid(int i, int what) {
        if (!found) {
            return refuse(MISSING);
        }
        if (i == NONE) {
            return kept.taken();
        }
        if (i < 0 || i >= kept.taken()) {
            return refuse(BEYOND);
        }
        switch (what) {
            case 0:
                return kept.sortAt(i);
            case 1:
                return kept.bitAt(i);
            case 2:
                return kept.formAt(i);
            default:
                return refuse(NO);
        }
    }

    public int colour(int k, int m, int r) {
        if (m < 1 || m > 9 || k < 0 || k > 8 || r < 0 || r >= m) {
            return refuse(NO);
        }
        int squares = 0;
        for (int bit = 0; bit < BITS; bit++) {
            int sum = bit % SIDE + k * (bit / SIDE);
            if ((area >>> bit & 1L) != 0 && sum % m == r) {
                squares++;
            }
        }
        return squares;
    }

    public int square(int heap) {
        if (!isThere(heap)) {
            return refuse(BEYOND);
        }
        int squares = Long.bitCount(heaps[heap]);
        for (int k = 1; k <= LARGEST_SQUARE; k++) {
            if (squares > 0 && k * k % squares == 0) {
                aside.begin(Sets.box(k, k));
                aside.addSort(heaps[heap], NONE);
                int answer = aside.next();
                if (answer == SPENT) {
                    return refuse(SPENT);
                }
                if (answer == 1) {
                    return k;
                }
            }
        }
        return NONE;
    }

    public long strip(int w, int n) {
        if (w < 1 || w > STRIP_ROWS || n < 0 || n > STRIP_COLUMNS) {
            return refuseLong(NO);
        }
        stripCount.begin(w);
        for (int i = 0; i < sortCount && i < MOST_SORTS; i++) {
            long set = sortSet(i);
            if (Sets.wide(set) > STRIP_ROWS || Sets.high(set) > STRIP_ROWS) {
                return refuseLong(NO);
            }
            stripCount.addSort(set);
        }
        long ways = stripCount.layings(n);
        return ways > StripCount.MOST ? refuseLong(FULL) : ways;
    }

    // ---- rows

    public int lay(int heap) {
        if (!isThere(heap)) {
            return refuse(BEYOND);
        }
        numberCount = Sets.high(heaps[heap]);
        for (int y = 0; y < numberCount && y < SIDE; y++) {
            numbers[y] = Long.bitCount(heaps[heap] >>> SIDE * y & 255L);
        }
        rowThere = true;
        return numberCount;
    }

    public int tear() {
        int was = rowThere ? 1 : 0;
        rowThere = false;
        return was;
    }

    public int row(int i) {
        if (!rowThere) {
            return refuse(MISSING);
        }
        if (i < 0 || i >= numberCount || i >= SIDE) {
            return refuse(BEYOND);
        }
        return numbers[i];
    }

    public int copy(int i, int j, int n) {
        if (!rowThere) {
            return refuse(MISSING);
        }
        if (n < 0) {
            return refuse(BELOW);
        }
        // Told by what is left, as i + n might wrap round.
        if (i < 0 || j < 0 || n > numberCount || i > numberCount - n || j > numberCount - n) {
            return refuse(COPY);
        }
        System.arraycopy(numbers, i, numbers, j, n);
        return n;
    }

    public int status(int by) {
        if (by > MISSING || by < SPENT) {
            return refuse(NO);
        }
        return refusals[-by];
    }

    // ---- helpers of the calls

    private int refuse(int by) {
        if (by <= MISSING && by >= SPENT) {
            refusals[-by]++;
        }
        return by;
    }

    private long refuseLong(int by) {
        refuse(by);
        return 0L;
    }

    private boolean isThere(int heap) {
        return heap >= 0 && heap < heapCount && heap < MOST_HEAPS;
    }

    private int addHeap(long set) {
        if (heapCount >= MOST_HEAPS) {
            return refuse(FULL);
        }
        heaps[heapCount] = set;
        heapCount++;
        return heapCount - 1;
    }

    private int addTogether(long set, long other, int x, int y) {
        long both = Sets.together(set, other, x, y);
        if (!Sets.isHeap(both)) {
            return refuse(NO);
        }
        return addHeap(both);
    }

    private long sortSet(int i) {
        if (i < 0 || i >= sortCount || i >= MOST_SORTS || !isThere(sortHeap[i])) {
            return 0L;
        }
        return heaps[sortHeap[i]];
    }

    private void loadSorts(Tries tries) {
        tries.begin(area);
        for (int i = 0; i < sortCount && i < MOST_SORTS; i++) {
            tries.addSort(sortSet(i), sortCopies[i]);
        }
    }

    private int seek() {
        int answer = kept.next();
        found = answer == 1;
        triesTold = kept.made();
        return answer == SPENT ? refuse(SPENT) : answer;
    }

    /** What can be told of a set alone. */
    private static final class Sets {
        private static final long LEFT_COLUMN = 0x0101010101010101L;
        private static final long RIGHT_COLUMN = LEFT_COLUMN << 7;

        private Sets() {
        }

        static boolean isHeap(long set) {
            return Long.bitCount(set) <= MOST_SQUARES && hangsTogether(set);
        }

        static boolean hangsTogether(long set) {
            return set != 0 && reached(Long.lowestOneBit(set), set) == set;
        }

        /** The squares of a set to which one can go over its sides, from some of them. */
        static long reached(long from, long set) {
            long now = from & set;
            for (int i = 0; i < BITS; i++) {
                long more = (now | besides(now)) & set;
                if (more == now) {
                    return now;
                }
                now = more;
            }
            return now;
        }

        static long besides(long set) {
            return (set & ~RIGHT_COLUMN) << 1 | (set & ~LEFT_COLUMN) >>> 1 | set << SIDE | set >>> SIDE;
        }

        /** The columns in which a set has squares, as a row of bits. */
        static long columns(long set) {
            long half = set | set >>> 32;
            long quarter = half | half >>> 16;
            return (quarter | quarter >>> 8) & 255L;
        }

        static int wide(long set) {
            return BITS - Long.numberOfLeadingZeros(columns(set));
        }

        static int high(long set) {
            return (BITS - Long.numberOfLeadingZeros(set) + SIDE - 1) / SIDE;
        }

        static long box(int wide, int high) {
            long box = 0;
            for (int y = 0; y < high && y < SIDE; y++) {
                box |= (1L << wide) - 1 << SIDE * y;
            }
            return box;
        }

        static long leftUp(long set) {
            if (set == 0) {
                return 0;
            }
            int left = Long.numberOfTrailingZeros(columns(set));
            int top = Long.numberOfTrailingZeros(set) / SIDE;
            return set >>> SIDE * top + left;
        }

        static long quarter(long set) {
            int high = high(set);
            int squares = Long.bitCount(set);
            long turned = 0;
            long rest = set;
            for (int i = 0; i < squares; i++) {
                int bit = Long.numberOfTrailingZeros(rest);
                turned |= 1L << SIDE * (bit % SIDE) + high - 1 - bit / SIDE;
                rest &= rest - 1;
            }
            return turned;
        }

        static long mirror(long set) {
            int wide = wide(set);
            int squares = Long.bitCount(set);
            long mirrored = 0;
            long rest = set;
            for (int i = 0; i < squares; i++) {
                int bit = Long.numberOfTrailingZeros(rest);
                mirrored |= 1L << SIDE * (bit / SIDE) + wide - 1 - bit % SIDE;
                rest &= rest - 1;
            }
            return mirrored;
        }

        static long leastForm(long set, boolean mirrors) {
            long least = set;
            long turned = set;
            for (int i = 1; i < (mirrors ? MOST_FORMS : TURNS); i++) {
                turned = i == TURNS ? mirror(set) : quarter(turned);
                least = Math.min(least, turned);
            }
            return least;
        }

        /** Puts the forms into a row of 8 places, in their order: how many there are. */
        static int formsInto(long[] into, long set, boolean mirrors) {
            int many = insert(into, 0, set);
            long turned = set;
            for (int i = 1; i < (mirrors ? MOST_FORMS : TURNS); i++) {
                turned = i == TURNS ? mirror(set) : quarter(turned);
                many = insert(into, many, turned);
            }
            return many;
        }

        /** Puts a number into an ordered row, unless it stands there: how many stand there then. */
        static int insert(long[] into, int many, long number) {
            int place = place(into, many, number);
            boolean stands = place < many && place < into.length && into[place] == number;
            if (stands || many >= into.length) {
                return many;
            }
            for (int i = many; i > place && i > 0; i--) {
                into[i] = into[i - 1];
            }
            into[place] = number;
            return many + 1;
        }

        /** How many numbers of an ordered row are less than one. */
        static int place(long[] row, int many, long number) {
            int place = 0;
            while (place < many && place < row.length && row[place] < number) {
                place++;
            }
            return place;
        }

        /** Two heaps as one set, the other one moved; 0 if they meet or don't fit. */
        static long together(long set, long other, int x, int y) {
            int left = Math.min(0, x);
            int top = Math.min(0, y);
            int wide = Math.max(wide(set), x + wide(other)) - left;
            int high = Math.max(high(set), y + high(other)) - top;
            if (wide > SIDE || high > SIDE) {
                return 0;
            }
            long here = set << SIDE * -top - left;
            long there = other << SIDE * (y - top) + x - left;
            return (here & there) == 0 ? here | there : 0;
        }

        static int kind(long set) {
            boolean wholeRows = hasWholeRows(set);
            boolean wholeColumns = hasWholeRows(quarter(set));
            if (wholeRows && wholeColumns) {
                return joinsCorners(set) || joinsCorners(mirror(set)) ? 0 : 1;
            }
            if (wholeColumns) {
                return 2;
            }
            return isHoled(set) ? 3 : 4;
        }

        private static boolean hasWholeRows(long set) {
            for (int y = 0; y < SIDE; y++) {
                int row = (int) (set >>> SIDE * y & 255L);
                // Adding the least bit carries through the first run, and leaves what stands behind a gap.
                if ((row + (row & -row) & row) != 0) {
                    return false;
                }
            }
            return true;
        }

        private static boolean joinsCorners(long set) {
            int last = SIDE * (high(set) - 1) + wide(set) - 1;
            return (set & 1L) != 0 && (set >>> last & 1L) != 0;
        }

        private static boolean isHoled(long set) {
            int wide = wide(set);
            int high = high(set);
            if (wide < 3 || high < 3) {
                return false;
            }
            long box = box(wide, high);
            long edge = box & ~(box(wide - 2, high - 2) << SIDE + 1);
            long others = box & ~set;
            return reached(edge, others) != others;
        }

        static int rim(long set) {
            int across = Long.bitCount(set & (set & ~RIGHT_COLUMN) << 1);
            int down = Long.bitCount(set & set << SIDE);
            return 4 * Long.bitCount(set) - 2 * (across + down);
        }

        static long cutsOf(long set) {
            long cuts = 0;
            for (int bit = 0; bit < BITS; bit++) {
                long one = 1L << bit;
                long rest = set & ~one;
                if ((set & one) != 0 && rest != 0 && !hangsTogether(rest)) {
                    cuts |= one;
                }
            }
            return cuts;
        }

        static int halves(long set) {
            int squares = Long.bitCount(set);
            int ways = 0;
            // The least square is always in the first half, so that no way counts twice.
            for (int choice = 1; choice < 1 << squares; choice += 2) {
                if (2 * Integer.bitCount(choice) == squares) {
                    long half = chosen(set, choice);
                    ways += areHalves(half, set & ~half) ? 1 : 0;
                }
            }
            return ways;
        }

        /** Those squares of a set, counted from the least, whose bits a choice has. */
        private static long chosen(long set, int choice) {
            int squares = Long.bitCount(set);
            long some = 0;
            long rest = set;
            for (int i = 0; i < squares; i++) {
                if ((choice >> i & 1) != 0) {
                    some |= Long.lowestOneBit(rest);
                }
                rest &= rest - 1;
            }
            return some;
        }

        private static boolean areHalves(long one, long other) {
            return hangsTogether(one) && hangsTogether(other)
                && leastForm(leftUp(one), true) == leastForm(leftUp(other), true);
        }
    }

    /** One list of heaps, in their order. */
    private static final class HeapList {
        private final long[] sets;
        private int many = 0;

        HeapList(int most) {
            sets = new long[Math.max(0, most)];
        }

        int length() {
            return many;
        }

        long at(int i) {
            return i >= 0 && i < many && i < sets.length ? sets[i] : 0L;
        }

        void add(long set) {
            many = Sets.insert(sets, many, set);
        }

        int placeOf(long set) {
            return Sets.place(sets, many, set);
        }
    }

    /** The lists of all sizes; a size is listed when it is first asked for. */
    private static final class Lists {
        private static final int HOWS = 3;
        private static final int[] HEAPS_BY_STEPS = {1, 2, 6, 19, 63, 216};

        private final HeapList[] made = new HeapList[HOWS * LARGEST_LIST];

        Lists() {
        }

        /** The list of heaps of n squares; null if there is no such list. */
        HeapList of(int n, int how) {
            if (n < 1 || n > LARGEST_LIST || how < 0 || how >= HOWS) {
                return null;
            }
            for (int size = 1; size <= n; size++) {
                if (made[HOWS * (size - 1)] == null) {
                    make(size);
                }
            }
            return made[HOWS * (n - 1) + how];
        }

        private void make(int n) {
            HeapList steps = new HeapList(HEAPS_BY_STEPS[n - 1]);
            HeapList smaller = n > 1 ? made[HOWS * (n - 2)] : null;
            if (smaller == null) {
                steps.add(1L);
            } else {
                for (int i = 0; i < smaller.length(); i++) {
                    addGrown(steps, smaller.at(i));
                }
            }
            made[HOWS * (n - 1)] = steps;
            made[HOWS * (n - 1) + 1] = leastOf(steps, false);
            made[HOWS * (n - 1) + 2] = leastOf(steps, true);
        }

        private static HeapList leastOf(HeapList steps, boolean mirrors) {
            HeapList least = new HeapList(steps.length());
            for (int i = 0; i < steps.length(); i++) {
                long set = steps.at(i);
                if (Sets.leastForm(set, mirrors) == set) {
                    least.add(set);
                }
            }
            return least;
        }

        private static void addGrown(HeapList steps, long set) {
            int wide = Sets.wide(set);
            int high = Sets.high(set);
            for (int y = -1; y <= high; y++) {
                for (int x = -1; x <= wide; x++) {
                    long grown = Sets.together(set, 1L, x, y);
                    if (Sets.hangsTogether(grown)) {
                        steps.add(grown);
                    }
                }
            }
        }
    }

    /** The tries on one ground, held at a laying so that they can go on behind it. */
    private static final class Tries {
        static final int MOST = 100000;

        private static final int MOST_CHOICES = MOST_SORTS * MOST_FORMS;
        // Each step is a try or takes one back.
        private static final int MOST_STEPS = 1000000;

        // The choices of a try: the forms of all sorts, one behind the other.
        private final long[] choiceShape = new long[MOST_CHOICES];
        private final long[] choicePlaces = new long[MOST_CHOICES];
        private final int[] choiceSort = new int[MOST_CHOICES];
        private final int[] choiceForm = new int[MOST_CHOICES];
        private int choices = 0;

        private final int[] copiesLeft = new int[MOST_SORTS];
        private int sorts = 0;
        private final long[] forms = new long[MOST_FORMS];

        // What was taken, in its order.
        private final int[] takenBit = new int[BITS];
        private final int[] takenChoice = new int[BITS];
        private int depth = 0;

        private long open = 0;
        private int nextChoice = 0;
        private boolean atLaying = false;
        private int triesMade = 0;

        Tries() {
        }

        void begin(long ground) {
            open = ground;
            choices = 0;
            sorts = 0;
            depth = 0;
            nextChoice = 0;
            atLaying = false;
            triesMade = 0;
        }

        void addSort(long set, int copies) {
            if (sorts >= MOST_SORTS) {
                return;
            }
            int many = Sets.formsInto(forms, set, true);
            for (int i = 0; i < many && i < MOST_FORMS && choices < MOST_CHOICES; i++) {
                int least = Long.numberOfTrailingZeros(forms[i]);
                // Begins with its least square, so that a shift by a bit puts that square there.
                choiceShape[choices] = forms[i] >>> least;
                choicePlaces[choices] = placesOf(forms[i]) << least;
                choiceSort[choices] = sorts;
                choiceForm[choices] = i;
                choices++;
            }
            // No ground has room for more than a form a square.
            copiesLeft[sorts] = copies == NONE ? BITS : copies;
            sorts++;
        }

        int made() {
            return triesMade;
        }

        int taken() {
            return depth;
        }

        int sortAt(int i) {
            return isTaken(i) ? choiceSort[takenChoice[i]] : NONE;
        }

        int bitAt(int i) {
            return isTaken(i) ? takenBit[i] : NONE;
        }

        int formAt(int i) {
            return isTaken(i) ? choiceForm[takenChoice[i]] : NONE;
        }

        private boolean isTaken(int i) {
            return i >= 0 && i < depth && i < takenChoice.length && isChoice(takenChoice[i]);
        }

        /** Goes on to the next laying: 1, 0 if there is none, SPENT. */
        int next() {
            if (atLaying) {
                atLaying = false;
                if (!takeBack()) {
                    return 0;
                }
            }
            for (int step = 0; step < MOST_STEPS; step++) {
                if (open == 0) {
                    atLaying = true;
                    return 1;
                }
                skipSortsWithoutCopies();
                if (isChoice(nextChoice)) {
                    if (triesMade == MOST) {
                        return SPENT;
                    }
                    tryNextChoice();
                } else if (!takeBack()) {
                    return 0;
                }
            }
            return SPENT;
        }

        private void skipSortsWithoutCopies() {
            for (int i = 0; i < MOST_CHOICES; i++) {
                if (!isChoice(nextChoice) || copiesLeft[choiceSort[nextChoice]] != 0) {
                    return;
                }
                nextChoice++;
            }
        }

        private boolean isChoice(int choice) {
            return choice >= 0 && choice < choices && choice < MOST_CHOICES
                && choiceSort[choice] >= 0 && choiceSort[choice] < MOST_SORTS;
        }

        private void tryNextChoice() {
            int bit = Long.numberOfTrailingZeros(open);
            long moved = choiceShape[nextChoice] << bit;
            boolean within = (choicePlaces[nextChoice] >>> bit & 1L) != 0;
            triesMade++;
            if (within && (moved & open) == moved && depth < takenBit.length) {
                open &= ~moved;
                copiesLeft[choiceSort[nextChoice]]--;
                takenBit[depth] = bit;
                takenChoice[depth] = nextChoice;
                depth++;
                nextChoice = 0;
            } else {
                nextChoice++;
            }
        }

        /** Gives back what was taken last and turns to the choice behind it; false if nothing was taken. */
        private boolean takeBack() {
            if (!isTaken(depth - 1)) {
                return false;
            }
            depth--;
            int choice = takenChoice[depth];
            open |= choiceShape[choice] << takenBit[depth];
            copiesLeft[choiceSort[choice]]++;
            nextChoice = choice + 1;
            return true;
        }

        /** Where the upper left corner of a form can lie, so that it doesn't reach beyond the sides. */
        private static long placesOf(long form) {
            return Sets.box(SIDE + 1 - Sets.wide(form), SIDE + 1 - Sets.high(form));
        }
    }

    /** Counts the layings of a strip, column by column. */
    private static final class StripCount {
        static final long MOST = 1000000000000000L;

        private static final int MOST_CHOICES = MOST_SORTS * MOST_FORMS;
        // No form reaches further than three columns behind the one where it begins.
        private static final int MOST_FRONTS = 1 << (STRIP_ROWS - 1) * STRIP_ROWS;

        private final long[] forms = new long[MOST_FORMS];
        // By the row where a form begins: what it covers, x, y as bit rows x + y; 0 if it lies beyond.
        private final int[] covers = new int[STRIP_ROWS * MOST_CHOICES];
        private int choices = 0;
        private int rows = 1;

        // How many ways lead to each front: what is covered of the next three columns.
        private long[] ways = new long[MOST_FRONTS];
        private long[] waysBehind = new long[MOST_FRONTS];

        StripCount() {
        }

        void begin(int w) {
            rows = Math.max(1, Math.min(STRIP_ROWS, w));
            choices = 0;
        }

        /** Takes a heap that is wide and high 4 at most. */
        void addSort(long set) {
            int many = Sets.formsInto(forms, set, true);
            for (int i = 0; i < many && i < MOST_FORMS && choices < MOST_CHOICES; i++) {
                for (int row = 0; row < rows; row++) {
                    covers[row * MOST_CHOICES + choices] = coverFrom(row, forms[i]);
                }
                choices++;
            }
        }

        /** What a form covers if the upper square of its first column lies in a row. */
        private int coverFrom(int row, long form) {
            int top = row;
            for (int y = 0; y < STRIP_ROWS && (form >>> SIDE * y & 1L) == 0; y++) {
                top--;
            }
            if (top < 0 || top + Sets.high(form) > rows) {
                return 0;
            }
            int cover = 0;
            for (int x = 0; x < STRIP_ROWS; x++) {
                for (int y = 0; y < STRIP_ROWS; y++) {
                    if ((form >>> SIDE * y + x & 1L) != 0) {
                        cover |= 1 << rows * x + top + y;
                    }
                }
            }
            return cover;
        }

        /** How many layings n columns have; some number above MOST if there are more than that. */
        long layings(int n) {
            for (int front = 0; front < MOST_FRONTS; front++) {
                ways[front] = 0;
                waysBehind[front] = 0;
            }
            ways[0] = 1;
            for (int column = 0; column < n; column++) {
                passColumn();
            }
            return ways[0];
        }

        private void passColumn() {
            int fronts = 1 << (STRIP_ROWS - 1) * rows;
            for (int front = 0; front < fronts && front < MOST_FRONTS; front++) {
                if (ways[front] != 0) {
                    fill(this, front, 0, ways[front]);
                    ways[front] = 0;
                }
            }
            long[] passed = ways;
            ways = waysBehind;
            waysBehind = passed;
        }

        /** Covers the first column from a row on, in all ways. */
        private static void fill(StripCount strip, int covered, int row, long ways) {
            if (row >= strip.rows || row >= STRIP_ROWS) {
                strip.addWays(covered >> strip.rows, ways);
                return;
            }
            if ((covered >> row & 1) != 0) {
                fill(strip, covered, row + 1, ways);
                return;
            }
            for (int choice = 0; choice < strip.choices && choice < MOST_CHOICES; choice++) {
                int cover = strip.covers[row * MOST_CHOICES + choice];
                if (cover != 0 && (cover & covered) == 0) {
                    fill(strip, covered | cover, row + 1, ways);
                }
            }
        }

        private void addWays(int front, long more) {
            if (front >= 0 && front < MOST_FRONTS) {
                waysBehind[front] = Math.min(MOST + 1, waysBehind[front] + more);
            }
        }
    }
}
