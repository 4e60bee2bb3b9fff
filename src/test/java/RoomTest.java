import java.lang.management.ManagementFactory;

/** What calls make is counted: an object and its charts are made once, calls make nothing more. */
public final class RoomTest {
    private static final Check CHECK = new Check();
    private static final com.sun.management.ThreadMXBean BEAN =
            (com.sun.management.ThreadMXBean) ManagementFactory.getThreadMXBean();

    public static void main(String[] args) {
        made();
        new LightSails();
        long before = made();
        LightSails x = new LightSails();
        long bytes = made() - before;
        CHECK.yes("a new object has " + bytes + " bytes", bytes < 40_000);
        fill(x);
        dearCalls(x);
        before = made();
        for (int i = 0; i < 20; i++) {
            dearCalls(x);
        }
        bytes = made() - before;
        CHECK.yes("dear calls made " + bytes + " bytes", bytes < 2_000);
        CHECK.end("RoomTest");
    }

    private static long made() {
        return BEAN.getThreadAllocatedBytes(Thread.currentThread().getId());
    }

    private static void fill(LightSails x) {
        for (int i = 0; i < 16; i++) {
            x.panel(i, -i, 900, 50, 50);
        }
        for (int i = 0; i < 4; i++) {
            x.flap(i);
            x.world(60 * i, 10 * i, i);
        }
        for (int i = 0; i < 5; i++) {
            x.coat(10 * i, 10);
        }
        x.sight(0, 20000, 10000);
        for (int i = 0; i < 6; i++) {
            x.knot(i, i * i % 6, i % 2 == 0);
        }
        for (int i = 0; i < 6; i++) {
            x.string(i, (i + 1) % 6);
        }
        for (int i = 0; i < 12; i++) {
            x.offer(i, -i, 10 * i, i);
        }
    }

    private static void dearCalls(LightSails x) {
        for (int i = 0; i < 4; i++) {
            x.stuck(i, false);
            x.bend(i, x.count(0) % 2);
            x.least(i, 39);
            x.window(i);
            x.late(i, 20);
            x.trim(i, -1);
            x.fits(4);
            x.shows(4);
        }
        x.strip(8, 42);
        x.orders();
        x.safe(6);
        x.pull(1, x.count(0) % 100, 3);
        x.hangs();
        x.sheet(30, 300, 0);
        x.feed(0x696e2069, 0x6620313c, 0x323b2020, 0x20202020, 0x20202020);
        x.rules(20);
        x.fly(3);
    }
}
