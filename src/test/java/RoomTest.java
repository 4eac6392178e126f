import com.sun.management.ThreadMXBean;
import java.lang.management.ManagementFactory;
import java.util.function.LongSupplier;

/** What 512 of the dearest calls make of objects: all calls of one run live in one room. */
public final class RoomTest {
    private static final int CALLS = 512;
    /** Some 5,000 of the class's small objects; the room holds 600,000. */
    private static final long MOST_BYTES = 200_000;

    private static final ThreadMXBean THREADS = (ThreadMXBean) ManagementFactory.getThreadMXBean();
    private static int wrong;

    private RoomTest() {
    }

    public static void main(String[] args) {
        OldReckoner ring = new OldReckoner();
        for (int i = 0; i < 24; i++) {
            int from = i % 8;
            ring.likeness(i < 10 ? 2 : 0, 10 * from + (from + 1) % 8, 1, 1);
        }
        for (int i = 0; i < 20; i++) {
            ring.line(i % 2 == 0 ? 120 * i + 120 : -60 * i, i % 8, 0, 0);
        }
        OldReckoner chain = new OldReckoner();
        for (int i = 0; i < 24; i++) {
            chain.likeness(0, i / 3 * 11 + 1, 1, 1);
        }
        measure("quarrel", () -> ring.quarrel(0, 0));
        measure("cure", () -> ring.cure(0));
        measure("heal", () -> ring.heal(0));
        measure("ways", () -> chain.ways(8, 0));
        measure("way", () -> chain.way(8, 0, 6560, 7));
        measure("span", () -> chain.span(8, 0, 1, 1));
        measure("factor", () -> chain.factor(8, 0, 0, 0));
        measure("total", () -> ring.total(3, 0, 0));
        measure("slip", () -> ring.slip(3, 999999999));
        OldReckoner other = new OldReckoner();
        measure("custom", () -> other.custom(0, 5));
        measure("likeness", () -> other.likeness(4, 1, 1, 1) > 20 ? other.forget() : 0);
        measure("line", () -> other.line(1, 1, 1, 1) > 18 ? other.clear() : 0);
        if (wrong != 0) {
            System.exit(1);
        }
    }

    private static void measure(String name, LongSupplier call) {
        call.getAsLong();
        long before = THREADS.getThreadAllocatedBytes(Thread.currentThread().getId());
        for (int i = 0; i < CALLS; i++) {
            call.getAsLong();
        }
        long made = THREADS.getThreadAllocatedBytes(Thread.currentThread().getId()) - before;
        System.out.println(name + ": " + made + " bytes in " + CALLS + " calls");
        if (made > MOST_BYTES) {
            wrong++;
            System.out.println(name + " makes too much");
        }
    }
}
