import java.lang.management.ManagementFactory;

/** No call makes an object: all rows are made by the constructor, and these stay small. */
public final class RoomTests {
    private static final com.sun.management.ThreadMXBean THREADS =
        (com.sun.management.ThreadMXBean) ManagementFactory.getThreadMXBean();

    private static long sink = 0;

    public static void main(String[] args) {
        Bench bench = new Bench();
        PutOffWicks warm = new PutOffWicks();
        for (int i = 0; i < 3; i++) {
            allCalls(warm);
        }
        long self = Thread.currentThread().getId();
        long before = THREADS.getThreadAllocatedBytes(self);
        PutOffWicks wicks = new PutOffWicks();
        long made = THREADS.getThreadAllocatedBytes(self) - before;
        for (int i = 0; i < 10; i++) {
            allCalls(wicks);
        }
        long used = THREADS.getThreadAllocatedBytes(self) - before - made;
        System.out.println("an object: " + made + " bytes; ten times all calls: " + used + " bytes");
        bench.due("an object stays below 20000 bytes", made < 20000, true);
        // asking for the bytes makes some objects of its own
        bench.due("calls make nothing", used < 2000, true);
        bench.due("answers were asked", sink != 0, true);
        bench.end();
    }


    private static void allCalls(PutOffWicks x) {
        // a10*;b20;a5*<1;c7*
        x.feed(1630613546, 996291120, 996226346, 1009859427, 925524321);
        sink += x.parish(18);
        // d8(w<5)
        x.feed(1681401975, 1010116961, 1633771873, 1633771873, 1633771873);
        sink += x.law(7);
        sink += x.days(2) + x.tried(100, 0) + x.thingIs(0, 1) + x.byWhen(0, 100) + x.dark(100) + x.pride(0);
        sink += x.oldest() + x.chain(2) + x.orders() + x.light(16) + x.worstNews(1) + x.median();
        x.feed(1633837921, 1633771873, 1633771873, 1633771873, 1633771873);
        sink += x.twist(4, 20, 103);
        for (int what = 0; what < 2; what++) {
            x.feed(0x00010100, 0x02030302, 0x01020201, 0x00030300, 0x00020200);
            sink += x.waiting(10, what);
            x.feed(0x05030201, 0x07080904, 0x05060302, 0x01020304, 0);
            sink += x.spun(8, what);
            x.feed(0x05030201, 0x07080904, 0x05060302, 0x01020304, 0);
            sink += x.putsOff(16, 7, what == 0, what);
            x.feed(0x05030201, 0x07080904, 0x05060302, 0x01020304, 0);
            sink += x.seen(10, 2, what);
            x.feed(0x05030201, 0x07080904, 0x05060302, 0x01020304, 0);
            sink += x.brightest(10, 5, what);
            x.feed(0x05030201, 0x07080904, 0x05060302, 0x01020304, 0);
            sink += x.halves(16, what);
        }
        x.feed(0x00050309, 0x040c0000, 0, 0, 0);
        sink += x.night(3, 10);
        x.feed(0x00050309, 0x040c0000, 0, 0, 0);
        sink += x.cord(12, 2);
        x.feed(0x00050309, 0x040c0000, 0, 0, 0);
        sink += x.forgiven(10);
        x.feed(0x00050309, 0x040c0000, 0, 0, 0);
        sink += x.keep() + (x.undo() ? 1 : 0) + (x.seed(5) ? 1 : 0) + (x.lit(0, true) ? 1 : 0) + x.check(20) + x.count(8);
    }
}
