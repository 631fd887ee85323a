import com.sun.management.ThreadMXBean;
import java.lang.management.ManagementFactory;

/** All calls of a run share one room: an object is small, and a call makes nothing. */
public final class RoomTest {
    private static final ThreadMXBean THREADS = (ThreadMXBean) ManagementFactory.getThreadMXBean();
    private static int sink;

    public static void main(String[] args) {
        WellSwap x = new WellSwap();
        useAll(x);
        long before = allocated();
        long nothing = allocated() - before;
        before = allocated();
        for (int i = 0; i < 3; i++) {
            useAll(x);
        }
        long calls = allocated() - before - nothing;
        Checks.check("calls make no objects: " + calls + " bytes", calls < 1000 ? 1 : 0, 1);
        before = allocated();
        sink += new WellSwap().count(0);
        long made = allocated() - before - nothing;
        System.out.println("bytes that an object takes: " + made);
        Checks.check("an object takes at most 100,000 bytes", made <= 100000 ? 1 : 0, 1);
        Checks.check("all answers were used", sink == 0 ? 0 : 1, 1);
        Checks.close("RoomTest");
    }

    private static long allocated() {
        return THREADS.getThreadAllocatedBytes(Thread.currentThread().getId());
    }

    private static void useAll(WellSwap x) {
        // parish 7 1;kin 0 1;kin 1 2;kin 2 3
        sink += x.end(0) + x.feed(0x70617269, 0x73682037, 0x20313b6b, 0x696e2030, 0x20313b6b)
                + x.feed(0x696e2031, 0x20323b6b, 0x696e2032, 0x20330000, 0) + x.end(34) + x.parish();
        // wed full+low-year*2 if [home>2 or not dry=1]
        sink += x.feed(0x77656420, 0x66756c6c, 0x2b6c6f77, 0x2d796561, 0x722a3220)
                + x.feed(0x69662020, 0x5b686f6d, 0x653e3220, 0x6f72206e, 0x6f742064) + x.feed(0x72793d31, 0x5d202020, 0, 0, 0)
                + x.end(45) + x.rule() + x.force(0);
        sink += x.year() + x.wed(1, 2) + x.pour(0, 3) + x.dig(1, 4) + x.birth(2) + x.undo() + x.note(2, 0, 0);
        sink += x.well(0, 3) + x.farm(0, 3) + x.lie() + x.fewest(3214567) + x.step(3214567, 1, 0) + x.lies(4)
                + x.farthest(0) + x.farthest(1) + x.comes(0, 3) + x.rings(1);
        sink += x.ahead(0, 50, 2) + x.dry(0) + x.home() + x.heir(9, 0) + x.depths(0, 0) + x.tastes(0, 1)
                + x.rests(0, 1, 5, 0) + x.pence(99, 0) + x.ruled(0) + x.look(9, 0) + x.seed(5) + x.droughts(2, 9, 50, 1);
        for (int i = 0; i < 13; i++) {
            sink += x.count(i);
        }
        sink += x.image(1) + x.back(1) + x.end(0);
    }
}
