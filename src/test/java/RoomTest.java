import java.lang.management.ManagementFactory;

/** What a run makes lives in one room: the constructor makes all rows, and no call makes others. */
public final class RoomTest {
    private static final int OBJECT_BYTES = 40000;
    private static final int CALLS = 512;

    private RoomTest() {
    }

    public static void main(String[] args) {
        com.sun.management.ThreadMXBean threads =
            (com.sun.management.ThreadMXBean) ManagementFactory.getThreadMXBean();
        long id = Thread.currentThread().getId();
        dearestCalls(new PaletteReel(8, 8));
        long start = threads.getThreadAllocatedBytes(id);
        PaletteReel x = new PaletteReel(8, 8);
        long made = threads.getThreadAllocatedBytes(id) - start;
        Check.due("one object is small, not " + made, made < OBJECT_BYTES, true);
        start = threads.getThreadAllocatedBytes(id);
        dearestCalls(x);
        long called = threads.getThreadAllocatedBytes(id) - start;
        Check.due("calls make next to nothing, not " + called, called < CALLS * 16, true);
        Check.end();
    }

    private static void dearestCalls(PaletteReel x) {
        for (int i = 0; i < 64; i++) {
            x.paint(i % 8, i / 8, i * 260000 + 77 * i);
        }
        for (int i = 64; i < CALLS; i += 8) {
            x.reduce(16, 2);
            x.palette(0, 4);
            x.write();
            x.read();
            x.draw(1);
            x.feed(i, 8);
            x.wipe();
            x.cut();
        }
    }
}
