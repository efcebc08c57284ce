import com.sun.management.ThreadMXBean;
import java.lang.management.ManagementFactory;

/** What objects and calls take of the room; all calls of a run live in one, and nothing is given back. */
public final class RoomTest {
    private static final ThreadMXBean THREADS = (ThreadMXBean) ManagementFactory.getThreadMXBean();
    private static final int CALLS = 512;

    private static int wrong = 0;

    public static void main(String[] args) {
        HeapSquares x = new HeapSquares();
        callAll(x, 0);
        long start = taken();
        x = new HeapSquares();
        check("a new object", taken() - start, 100_000);
        start = taken();
        for (int i = 0; i < CALLS; i++) {
            callAll(x, i);
        }
        check("all calls, " + CALLS + " times each", taken() - start, 100_000);
        System.out.println(wrong == 0 ? "there is room" : "too much room is taken");
        if (wrong != 0) {
            System.exit(1);
        }
    }

    private static long taken() {
        return THREADS.getThreadAllocatedBytes(Thread.currentThread().getId());
    }

    private static void check(String what, long bytes, long most) {
        System.out.println(what + ": " + bytes + " bytes");
        if (bytes > most) {
            wrong++;
        }
    }

    private static void callAll(HeapSquares x, int i) {
        x.heap(263);
        x.heap(3855);
        x.heap(1);
        for (int what = 0; what < 8; what++) {
            x.look(1, what);
        }
        x.form(0, i % 8, true);
        x.code(0);
        x.cuts(1);
        x.same(0, 1);
        x.turn(0, i % 4, true);
        x.grow(0, 18);
        x.put(0, 0, 1, 1);
        x.count(6, 2);
        x.list(6, i % 3, i % 30);
        x.rank(0, i % 3);
        x.ground(-1L);
        x.sort(0, -1);
        x.sort(2, -1);
        x.first();
        x.laid(0, 2);
        x.go();
        x.all();
        x.tries();
        x.colour(1, 3, 0);
        x.square(0);
        x.strip(4, 20);
        x.lay(0);
        x.copy(0, 1, 1);
        x.row(1);
        x.tear();
        x.status(-7);
        x.unsort();
        for (int k = 0; k < 13; k++) {
            x.drop();
        }
        x.status(-2);
    }
}
