import java.lang.management.ManagementFactory;

/**
 * All calls of a run share one room: an object makes its rows once and uses them again. Measured in
 * bytes, of which an int has four.
 */
public final class RoomTest {
    private static final com.sun.management.ThreadMXBean THREADS =
            (com.sun.management.ThreadMXBean) ManagementFactory.getThreadMXBean();

    public static void main(String[] args) {
        run();
        Check.due("a run of 512 calls takes less than 2 MB", run() < 2000000, true);
        Check.due("a new object takes less than 200 kB", made() < 200000, true);
        Check.end();
    }

    private static long now() {
        return THREADS.getThreadAllocatedBytes(Thread.currentThread().getId());
    }

    private static long made() {
        long before = now();
        new DrawingHouse();
        return now() - before;
    }

    private static long run() {
        long before = now();
        DrawingHouse house = new DrawingHouse();
        house.feed(0x612d622d, 0x632d642d, 0x612d632d, 0x653b622d, 0x643b0000);
        house.read(0, 18);
        house.same(0, 0);
        for (int k = 0; k < 50; k++) {
            house.draw(0, k % 8, 8);
            house.route(0, k % 6);
            house.judge(0, 0);
            house.label(0, 0, 0);
            house.text(0, k % 2);
            house.dots(0, 64, 64);
            house.planar(0, 1);
            house.change(0, 4, 0, 1 + k);
            house.feed(0x6e6f6465, 0x20696620, 0x313d313a, 0x636f6c6f, 0x723d313b);
            house.style(0, 20);
        }
        return now() - before;
    }
}
