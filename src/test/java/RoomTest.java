import com.sun.management.ThreadMXBean;
import java.lang.management.ManagementFactory;

/** How much runs of 512 calls make: far below 7.3 million elements, most of them of four bytes. */
public final class RoomTest {
    private static final long MOST_BYTES = 16L << 20;

    public static void main(String[] args) {
        holdsIn("new objects", RoomTest::newObjects);
        holdsIn("nets told", RoomTest::nets);
        holdsIn("objects with the dearest net", RoomTest::dearNets);
        holdsIn("the dearest calls", RoomTest::dearCalls);
        Check.end();
    }

    private static void holdsIn(String what, Runnable run) {
        run.run();
        ThreadMXBean threads = (ThreadMXBean) ManagementFactory.getThreadMXBean();
        long before = threads.getThreadAllocatedBytes(Thread.currentThread().getId());
        run.run();
        long made = threads.getThreadAllocatedBytes(Thread.currentThread().getId()) - before;
        System.out.println(what + ": " + made + " bytes");
        Check.holds(what, made < MOST_BYTES);
    }

    private static void newObjects() {
        for (int i = 0; i < 512; i++) {
            new SpareRings().count(0);
        }
    }

    private static void nets() {
        SpareRings x = new SpareRings();
        for (int i = 0; i < 256; i++) {
            Check.tell(x, "net nodes 8 rate 1 ;");
        }
    }

    private static void dearNets() {
        for (int i = 0; i < 32; i++) {
            SpareRings x = new SpareRings();
            Check.tell(x, RingsTest.five(""));
            x.yet(0, 0);
            x.yet(1, 0);
        }
    }

    private static void dearCalls() {
        SpareRings x = new SpareRings();
        Check.tell(x, RingsTest.five("costs:if rate*long>from then rate+1 else to end;"));
        for (int i = 0; i < 50; i++) {
            x.rate(i % 10);
            x.year(i, 40);
            x.chance(3, 0);
            x.mean(3, 0);
            x.twos(0);
            x.yet(0, 0);
            x.yet(1, 0);
            x.covers(3);
            x.bound(0);
            x.judge(0, 0);
        }
    }
}
