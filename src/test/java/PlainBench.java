import java.math.BigInteger;
import java.util.ArrayDeque;
import java.util.ArrayList;
import java.util.Arrays;
import java.util.Comparator;
import java.util.Deque;
import java.util.HashMap;
import java.util.HashSet;
import java.util.List;
import java.util.Map;
import java.util.Set;
import java.util.TreeSet;

/** The document told a second time, slowly and with the whole Java library, for ModelTest to compare with. */
final class PlainBench {
    record Square(int x, int y) { }

    record Piece(int sort, int bit, int form) { }

    private static final int LIMIT = 100000;
    private static final BigInteger MOST_WAYS = BigInteger.TEN.pow(15);
    private static final Map<Integer, TreeSet<Long>> STEPS = new HashMap<>();

    private final List<Set<Square>> heaps = new ArrayList<>();
    private Set<Square> ground = new HashSet<>();
    private final List<int[]> sorts = new ArrayList<>();
    private List<Piece> laying = null;
    private int layingsBefore = 0;
    private int tries = 0;
    private int[] row = null;
    private final int[] refused = new int[9];

    // ---- sets

    static Set<Square> squares(long set) {
        Set<Square> squares = new HashSet<>();
        for (int bit = 0; bit < 64; bit++) {
            if ((set >>> bit & 1) != 0) {
                squares.add(new Square(bit % 8, bit / 8));
            }
        }
        return squares;
    }

    static long number(Set<Square> squares) {
        long number = 0;
        for (Square s : squares) {
            number |= 1L << (8 * s.y() + s.x());
        }
        return number;
    }

    static int wide(Set<Square> heap) {
        return heap.stream().mapToInt(Square::x).max().orElse(-1) + 1;
    }

    static int high(Set<Square> heap) {
        return heap.stream().mapToInt(Square::y).max().orElse(-1) + 1;
    }

    static Set<Square> moved(Set<Square> squares, int x, int y) {
        Set<Square> moved = new HashSet<>();
        squares.forEach(s -> moved.add(new Square(s.x() + x, s.y() + y)));
        return moved;
    }

    static Set<Square> leftUp(Set<Square> squares) {
        int left = squares.stream().mapToInt(Square::x).min().orElse(0);
        int top = squares.stream().mapToInt(Square::y).min().orElse(0);
        return moved(squares, -left, -top);
    }

    static List<Square> besides(Square s) {
        return List.of(new Square(s.x() - 1, s.y()), new Square(s.x() + 1, s.y()),
            new Square(s.x(), s.y() - 1), new Square(s.x(), s.y() + 1));
    }

    static boolean hangs(Set<Square> squares) {
        if (squares.isEmpty()) {
            return false;
        }
        Set<Square> left = new HashSet<>(squares);
        Deque<Square> todo = new ArrayDeque<>();
        Square start = squares.iterator().next();
        left.remove(start);
        todo.add(start);
        while (!todo.isEmpty()) {
            for (Square s : besides(todo.remove())) {
                if (left.remove(s)) {
                    todo.add(s);
                }
            }
        }
        return left.isEmpty();
    }

    static Set<Square> turned(Set<Square> heap) {
        int high = high(heap);
        Set<Square> turned = new HashSet<>();
        heap.forEach(s -> turned.add(new Square(high - 1 - s.y(), s.x())));
        return turned;
    }

    static Set<Square> mirrored(Set<Square> heap) {
        int wide = wide(heap);
        Set<Square> mirrored = new HashSet<>();
        heap.forEach(s -> mirrored.add(new Square(wide - 1 - s.x(), s.y())));
        return mirrored;
    }

    static List<Long> forms(Set<Square> heap, boolean mirrors) {
        TreeSet<Long> forms = new TreeSet<>();
        Set<Square> now = heap;
        Set<Square> other = mirrored(heap);
        for (int i = 0; i < 4; i++) {
            forms.add(number(now));
            if (mirrors) {
                forms.add(number(other));
            }
            now = turned(now);
            other = turned(other);
        }
        return new ArrayList<>(forms);
    }

    static long codeOf(Set<Square> heap) {
        return forms(heap, true).get(0);
    }

    static boolean whole(Set<Square> heap, boolean rows) {
        for (int line = 0; line < 8; line++) {
            int at = line;
            int[] places = heap.stream().filter(s -> (rows ? s.y() : s.x()) == at)
                .mapToInt(s -> rows ? s.x() : s.y()).sorted().toArray();
            if (places.length > 0 && places[places.length - 1] - places[0] != places.length - 1) {
                return false;
            }
        }
        return true;
    }

    static boolean comesOut(Set<Square> heap, Square from) {
        Set<Square> seen = new HashSet<>(Set.of(from));
        Deque<Square> todo = new ArrayDeque<>(Set.of(from));
        while (!todo.isEmpty()) {
            for (Square s : besides(todo.remove())) {
                if (s.x() < 0 || s.y() < 0 || s.x() >= wide(heap) || s.y() >= high(heap)) {
                    return true;
                }
                if (!heap.contains(s) && seen.add(s)) {
                    todo.add(s);
                }
            }
        }
        return false;
    }

    static int kind(Set<Square> heap) {
        int right = wide(heap) - 1;
        int down = high(heap) - 1;
        if (whole(heap, true) && whole(heap, false)) {
            boolean falls = heap.contains(new Square(0, 0)) && heap.contains(new Square(right, down));
            boolean rises = heap.contains(new Square(right, 0)) && heap.contains(new Square(0, down));
            return falls || rises ? 0 : 1;
        }
        if (whole(heap, false)) {
            return 2;
        }
        for (int x = 0; x <= right; x++) {
            for (int y = 0; y <= down; y++) {
                Square s = new Square(x, y);
                if (!heap.contains(s) && !comesOut(heap, s)) {
                    return 3;
                }
            }
        }
        return 4;
    }

    static int rim(Set<Square> heap) {
        int rim = 0;
        for (Square s : heap) {
            rim += (int) besides(s).stream().filter(b -> !heap.contains(b)).count();
        }
        return rim;
    }

    static Set<Square> cutsOf(Set<Square> heap) {
        Set<Square> cuts = new HashSet<>();
        for (Square s : heap) {
            Set<Square> rest = new HashSet<>(heap);
            rest.remove(s);
            if (!rest.isEmpty() && !hangs(rest)) {
                cuts.add(s);
            }
        }
        return cuts;
    }

    static int halves(Set<Square> heap) {
        List<Square> squares = new ArrayList<>(heap);
        int both = 0;
        for (int choice = 0; choice < 1 << squares.size(); choice++) {
            Set<Square> one = new HashSet<>();
            Set<Square> other = new HashSet<>();
            for (int i = 0; i < squares.size(); i++) {
                ((choice >> i & 1) != 0 ? one : other).add(squares.get(i));
            }
            if (hangs(one) && hangs(other) && codeOf(leftUp(one)) == codeOf(leftUp(other))) {
                both++;
            }
        }
        return both / 2;
    }

    /** The listing of n squares, by steps. */
    static TreeSet<Long> steps(int n) {
        return STEPS.computeIfAbsent(n, PlainBench::makeSteps);
    }

    private static TreeSet<Long> makeSteps(int n) {
        Set<Set<Square>> now = new HashSet<>();
        now.add(Set.of(new Square(0, 0)));
        for (int size = 1; size < n; size++) {
            Set<Set<Square>> more = new HashSet<>();
            for (Set<Square> heap : now) {
                for (Square s : heap) {
                    for (Square b : besides(s)) {
                        Set<Square> grown = new HashSet<>(heap);
                        if (grown.add(b)) {
                            more.add(leftUp(grown));
                        }
                    }
                }
            }
            now = more;
        }
        TreeSet<Long> numbers = new TreeSet<>();
        now.forEach(heap -> numbers.add(number(heap)));
        return numbers;
    }

    static List<Long> listed(int n, int how) {
        List<Long> listed = new ArrayList<>();
        for (long set : steps(n)) {
            if (how == 0 || forms(squares(set), how == 2).get(0) == set) {
                listed.add(set);
            }
        }
        return listed;
    }

    // ---- tries: from the beginning each time, until so many layings were found

    private static final class Search {
        private final List<List<Long>> forms = new ArrayList<>();
        private final int[] left;
        private final Set<Square> open;
        private final int wanted;
        private final List<Piece> pieces = new ArrayList<>();
        private int found = 0;
        private int tries = 0;
        private boolean spent = false;

        Search(Set<Square> ground, List<Set<Square>> heaps, int[] copies, int wanted) {
            open = new HashSet<>(ground);
            heaps.forEach(heap -> forms.add(PlainBench.forms(heap, true)));
            left = copies.clone();
            this.wanted = wanted;
        }

        /** Whether the search ends here: so many were found, or the tries are through. */
        boolean run() {
            if (open.isEmpty()) {
                found++;
                return found == wanted;
            }
            Square least = open.stream().min(Comparator.comparingInt(s -> 8 * s.y() + s.x())).get();
            for (int sort = 0; sort < left.length; sort++) {
                for (int form = 0; left[sort] != 0 && form < forms.get(sort).size(); form++) {
                    if (tries == LIMIT) {
                        spent = true;
                        return true;
                    }
                    tries++;
                    if (take(least, sort, form)) {
                        return true;
                    }
                }
            }
            return false;
        }

        private boolean take(Square least, int sort, int form) {
            Set<Square> shape = squares(forms.get(sort).get(form));
            Square own = shape.stream().min(Comparator.comparingInt(s -> 8 * s.y() + s.x())).get();
            Set<Square> cover = moved(shape, least.x() - own.x(), least.y() - own.y());
            if (!open.containsAll(cover)) {
                return false;
            }
            open.removeAll(cover);
            left[sort]--;
            pieces.add(new Piece(sort, 8 * least.y() + least.x(), form));
            if (run()) {
                return true;
            }
            pieces.remove(pieces.size() - 1);
            left[sort]++;
            open.addAll(cover);
            return false;
        }
    }

    private Search search(int wanted) {
        List<Set<Square>> sets = new ArrayList<>();
        int[] copies = new int[sorts.size()];
        for (int i = 0; i < copies.length; i++) {
            sets.add(heaps.get(sorts.get(i)[0]));
            copies[i] = sorts.get(i)[1];
        }
        return new Search(ground, sets, copies, wanted);
    }

    private int seek(int wanted) {
        Search search = search(wanted);
        boolean ended = search.run();
        tries = search.tries;
        laying = ended && !search.spent ? search.pieces : null;
        layingsBefore = wanted;
        return search.spent ? refuse(-8) : ended ? 1 : 0;
    }

    // ---- strips: along the rows of n by w squares turned upright, by what is covered

    private static BigInteger ways(int w, int n, String covered, List<List<Square>> pieces, Map<String, BigInteger> known) {
        int at = covered.indexOf('.');
        if (at < 0) {
            return BigInteger.ONE;
        }
        BigInteger told = known.get(covered);
        if (told != null) {
            return told;
        }
        BigInteger sum = BigInteger.ZERO;
        for (List<Square> piece : pieces) {
            char[] then = covered.toCharArray();
            boolean fits = true;
            for (Square s : piece) {
                int x = at % w + s.x() - piece.get(0).x();
                int y = at / w + s.y();
                fits = fits && x >= 0 && x < w && y < n && then[w * y + x] == '.';
                if (fits) {
                    then[w * y + x] = '#';
                }
            }
            if (fits) {
                sum = sum.add(ways(w, n, new String(then), pieces, known));
            }
        }
        known.put(covered, sum);
        return sum;
    }

    // ---- the calls

    private int refuse(int by) {
        refused[-by]++;
        return by;
    }

    int heapCount() {
        return heaps.size();
    }

    private boolean isThere(int heap) {
        return heap >= 0 && heap < heaps.size();
    }

    private int add(Set<Square> heap) {
        if (heaps.size() == 12) {
            return refuse(-7);
        }
        heaps.add(heap);
        return heaps.size() - 1;
    }

    int heap(long set) {
        Set<Square> squares = squares(set);
        return squares.size() > 8 || !hangs(squares) ? refuse(-6) : add(leftUp(squares));
    }

    int drop() {
        if (heaps.isEmpty()) {
            return refuse(-2);
        }
        if (sorts.stream().anyMatch(sort -> sort[0] == heaps.size() - 1)) {
            return refuse(-6);
        }
        heaps.remove(heaps.size() - 1);
        return heaps.size();
    }

    long set(int heap) {
        if (!isThere(heap)) {
            refuse(-3);
            return 0;
        }
        return number(heaps.get(heap));
    }

    int look(int heap, int what) {
        if (!isThere(heap)) {
            return refuse(-3);
        }
        Set<Square> set = heaps.get(heap);
        return switch (what) {
            case 0 -> kind(set);
            case 1 -> set.size();
            case 2 -> wide(set);
            case 3 -> high(set);
            case 4 -> rim(set);
            case 5 -> forms(set, false).size();
            case 6 -> forms(set, true).size();
            case 7 -> halves(set);
            default -> refuse(-6);
        };
    }

    long code(int heap) {
        if (!isThere(heap)) {
            refuse(-3);
            return 0;
        }
        return codeOf(heaps.get(heap));
    }

    long form(int heap, int i, boolean mirrors) {
        List<Long> forms = isThere(heap) ? forms(heaps.get(heap), mirrors) : List.of();
        if (i < 0 || i >= forms.size()) {
            refuse(-3);
            return 0;
        }
        return forms.get(i);
    }

    long cuts(int heap) {
        if (!isThere(heap)) {
            refuse(-3);
            return 0;
        }
        return number(cutsOf(heaps.get(heap)));
    }

    int same(int heap, int other) {
        if (!isThere(heap) || !isThere(other)) {
            return refuse(-3);
        }
        Set<Square> one = heaps.get(heap);
        Set<Square> two = heaps.get(other);
        return one.equals(two) ? 2 : codeOf(one) == codeOf(two) ? 1 : 0;
    }

    int turn(int heap, int times, boolean mirrored) {
        if (!isThere(heap)) {
            return refuse(-3);
        }
        if (times < 0 || times > 3) {
            return refuse(-6);
        }
        Set<Square> now = mirrored ? mirrored(heaps.get(heap)) : heaps.get(heap);
        for (int i = 0; i < times; i++) {
            now = turned(now);
        }
        return add(now);
    }

    private int addBoth(Set<Square> one, Set<Square> other) {
        Set<Square> both = new HashSet<>(one);
        both.addAll(other);
        Set<Square> heap = leftUp(both);
        boolean meet = both.size() < one.size() + other.size();
        if (meet || both.size() > 8 || !hangs(both) || wide(heap) > 8 || high(heap) > 8) {
            return refuse(-6);
        }
        return add(heap);
    }

    int grow(int heap, int square) {
        if (!isThere(heap)) {
            return refuse(-3);
        }
        for (int y = -1; y <= 8; y++) {
            for (int x = -1; x <= 8; x++) {
                if (square == 16 * (y + 1) + x + 1) {
                    return addBoth(heaps.get(heap), Set.of(new Square(x, y)));
                }
            }
        }
        return refuse(-6);
    }

    int put(int heap, int other, int x, int y) {
        if (!isThere(heap) || !isThere(other)) {
            return refuse(-3);
        }
        if (x < -7 || x > 7 || y < -7 || y > 7) {
            return refuse(-6);
        }
        return addBoth(heaps.get(heap), moved(heaps.get(other), x, y));
    }

    private static boolean hasList(int n, int how) {
        return n >= 1 && n <= 6 && how >= 0 && how <= 2;
    }

    int count(int n, int how) {
        return hasList(n, how) ? listed(n, how).size() : refuse(-6);
    }

    long list(int n, int how, int i) {
        if (!hasList(n, how)) {
            refuse(-6);
            return 0;
        }
        List<Long> listed = listed(n, how);
        if (i < 0 || i >= listed.size()) {
            refuse(-3);
            return 0;
        }
        return listed.get(i);
    }

    int rank(int heap, int how) {
        if (!isThere(heap)) {
            return refuse(-3);
        }
        Set<Square> set = heaps.get(heap);
        if (!hasList(set.size(), how)) {
            return refuse(-6);
        }
        long stands = how == 0 ? number(set) : forms(set, how == 2).get(0);
        return listed(set.size(), how).indexOf(stands);
    }

    int ground(long set) {
        ground = squares(set);
        laying = null;
        return ground.size();
    }

    int sort(int heap, int copies) {
        if (!isThere(heap)) {
            return refuse(-3);
        }
        if (copies < -1 || copies > 64) {
            return refuse(-6);
        }
        if (sorts.size() == 4) {
            return refuse(-7);
        }
        sorts.add(new int[] {heap, copies});
        laying = null;
        return sorts.size();
    }

    int unsort() {
        int were = sorts.size();
        sorts.clear();
        laying = null;
        return were;
    }

    int first() {
        return seek(1);
    }

    int go() {
        return laying == null ? refuse(-2) : seek(layingsBefore + 1);
    }

    int all() {
        Search search = search(Integer.MAX_VALUE);
        search.run();
        tries = search.tries;
        return search.spent ? refuse(-8) : search.found;
    }

    int tries() {
        return tries;
    }

    int laid(int i, int what) {
        if (laying == null) {
            return refuse(-2);
        }
        if (i == -1) {
            return laying.size();
        }
        if (i < 0 || i >= laying.size()) {
            return refuse(-3);
        }
        Piece piece = laying.get(i);
        return what == 0 ? piece.sort() : what == 1 ? piece.bit() : what == 2 ? piece.form() : refuse(-6);
    }

    int colour(int k, int m, int r) {
        if (m < 1 || m > 9 || k < 0 || k > 8 || r < 0 || r >= m) {
            return refuse(-6);
        }
        return (int) ground.stream().filter(s -> (s.x() + k * s.y()) % m == r).count();
    }

    int square(int heap) {
        if (!isThere(heap)) {
            return refuse(-3);
        }
        Set<Square> set = heaps.get(heap);
        for (int k = 1; k <= 6; k++) {
            Set<Square> field = new HashSet<>();
            for (int i = 0; i < k * k; i++) {
                field.add(new Square(i % k, i / k));
            }
            if (k * k % set.size() == 0) {
                Search search = new Search(field, List.of(set), new int[] {-1}, 1);
                boolean ended = search.run();
                if (search.spent) {
                    return refuse(-8);
                }
                if (ended) {
                    return k;
                }
            }
        }
        return -1;
    }

    long strip(int w, int n) {
        boolean fits = sorts.stream().allMatch(sort -> wide(heaps.get(sort[0])) <= 4 && high(heaps.get(sort[0])) <= 4);
        if (w < 1 || w > 4 || n < 0 || n > 20 || !fits) {
            refuse(-6);
            return 0;
        }
        List<List<Square>> pieces = new ArrayList<>();
        for (int[] sort : sorts) {
            for (long form : forms(heaps.get(sort[0]), true)) {
                List<Square> piece = new ArrayList<>(squares(form));
                piece.sort(Comparator.comparingInt(s -> 8 * s.y() + s.x()));
                pieces.add(piece);
            }
        }
        BigInteger ways = ways(w, n, ".".repeat(w * n), pieces, new HashMap<>());
        if (ways.compareTo(MOST_WAYS) > 0) {
            refuse(-7);
            return 0;
        }
        return ways.longValueExact();
    }

    int lay(int heap) {
        if (!isThere(heap)) {
            return refuse(-3);
        }
        row = new int[high(heaps.get(heap))];
        heaps.get(heap).forEach(s -> row[s.y()]++);
        return row.length;
    }

    int tear() {
        int was = row == null ? 0 : 1;
        row = null;
        return was;
    }

    int row(int i) {
        return row == null ? refuse(-2) : i < 0 || i >= row.length ? refuse(-3) : row[i];
    }

    int copy(int i, int j, int n) {
        if (row == null) {
            return refuse(-2);
        }
        if (n < 0) {
            return refuse(-4);
        }
        if (i < 0 || j < 0 || (long) i + n > row.length || (long) j + n > row.length) {
            return refuse(-5);
        }
        int[] were = Arrays.copyOfRange(row, i, i + n);
        for (int k = 0; k < n; k++) {
            row[j + k] = were[k];
        }
        return n;
    }

    int status(int by) {
        return by <= -2 && by >= -8 ? refused[-by] : refuse(-6);
    }
}
