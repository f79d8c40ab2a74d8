import java.lang.management.ManagementFactory;
import java.util.function.IntConsumer;

/** 512 of the dearest calls on full TEXTS stay far below the one room that all calls of a run share. */
public final class RoomTest {
    /** The room has 7.3 million fields and elements; a byte is at most one of these, so this leaves much of it. */
    private static final long MOST_BYTES = 3_000_000;

    private RoomTest() {
    }

    public static void main(String[] args) {
        of("new", k -> { });
        Lineseam x = full();
        of("digest", k -> x.digest());
        of("isSound", k -> x.isSound());
        of("whole", k -> x.whole(k % 3));
        of("script", k -> x.script(0, 1, k % 2 == 0));
        of("patch", k -> x.patch(k % 3, (k + 1) % 3, k % 4));
        of("hunk", k -> x.hunk(0));
        x.patch(0, 1, 0);
        of("lay", k -> {
            Check.due(x.house(5), x.lay(0, 9));
            x.turn();
        });
        of("join", k -> x.join(3, k % 3, (k + 1) % 3, k % 3, 0));
        of("wouldJoin", k -> x.wouldJoin(k % 3, (k + 1) % 3, 2));
        of("ofMove", k -> x.moves(0, 1));
        of("asOf", k -> x.asOf(k % 4, k % 8));
        Lineseam y = new Lineseam();
        of("typed", k -> fresh(y, k));
        Lineseam z = new Lineseam();
        of("written", k -> written(z, k));
        Check.due(true, z.isSound());
        Check.end("RoomTest");
    }

    private static void of(String call, IntConsumer made) {
        Check.at(call);
        com.sun.management.ThreadMXBean meter =
                (com.sun.management.ThreadMXBean) ManagementFactory.getThreadMXBean();
        long id = Thread.currentThread().getId();
        long before = meter.getThreadAllocatedBytes(id);
        new Lineseam();
        for (int k = 0; k < 512; k++) {
            made.accept(k);
        }
        long taken = meter.getThreadAllocatedBytes(id) - before;
        if (taken > MOST_BYTES) {
            System.out.println(call + " takes " + taken + " bytes");
        }
        Check.due(true, taken <= MOST_BYTES);
    }

    /** TEXTS of 30 LINES of 12 signs, turned round against each other, and 8 VERSIONS of them. */
    private static Lineseam full() {
        Lineseam x = new Lineseam();
        for (int k = 0; k < 30; k++) {
            Check.type(x, "abcdefgh " + (100 + k));
            x.put(0, k);
        }
        x.copy(1, 0);
        x.carry(1, 0, 15);
        x.copy(2, 1);
        x.carry(2, 3, 9);
        x.copy(3, 2);
        x.carry(3, 10, 22);
        for (int v = 0; v < 8; v++) {
            x.keep(v % 4);
        }
        x.patch(0, 1, 3);
        x.join(3, 0, 1, 2, 2);
        return x;
    }

    private static void fresh(Lineseam x, int k) {
        Check.type(x, "ab " + k);
        x.put(k % 4, 0);
        if (x.house(k % 4) > 29) {
            x.cut(k % 4, 0, 20);
        }
    }

    /** Each time LINES that never were: far more NUMBERS than a run of 512 calls brings. */
    private static void written(Lineseam x, int k) {
        x.cut(0, 0, x.house(0));
        for (int n = 0; n < 14; n++) {
            Check.type(x, n + " " + k);
            x.put(0, n);
        }
        x.patch(1, 0, 0);
        x.write(2);
        x.read(2);
    }
}
