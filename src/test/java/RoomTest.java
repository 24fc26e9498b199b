import java.lang.management.ManagementFactory;

/** All calls of a run live in one room: an object is small, and its calls make nothing but what toss throws. */
public final class RoomTest {
    private static final Due due = new Due();
    private static final int CALLS = 512;
    private static final long OF_AN_OBJECT = 20000;
    /** What the measuring itself may take. */
    private static final long ASIDE = 20000;

    private final com.sun.management.ThreadMXBean room =
        (com.sun.management.ThreadMXBean) ManagementFactory.getThreadMXBean();

    public static void main(String[] args) {
        RoomTest test = new RoomTest();
        // The first time classes are read in and constants made; the second time counts.
        test.objects();
        test.calls();
        long ofAnObject = test.objects();
        due.holds("an object takes " + ofAnObject + " bytes", ofAnObject < OF_AN_OBJECT);
        long ofCalls = test.calls();
        due.holds("the calls take " + ofCalls + " bytes", ofCalls < ASIDE);
        due.end("RoomTest");
    }

    private long taken() {
        return room.getThreadAllocatedBytes(Thread.currentThread().getId());
    }

    private long objects() {
        long before = taken();
        RubberBandsHoldFamilies x = new RubberBandsHoldFamilies();
        x.comes(0);
        return taken() - before;
    }

    private long calls() {
        RubberBandsHoldFamilies x = Due.town("p10;p14;p20;p22;p11;p12;p13;b0001;b4512;b1023;b6901;b5913;b2002;b0930;b0104;b0256;");
        Due.fill(x, 0, 0, 0, 1, 2, -128);
        Due.write(x, 1, "c0;y01;");
        long before = taken();
        long sum = 0;
        for (int i = 0; i < CALLS; i++) {
            sum += dearOnes(x, i) + x.image() + x.restore() + x.row(2, 0, 100) + x.copy(0, 0, 0, 1, 3);
        }
        long after = taken();
        due.holds("something was answered", sum != 0);
        return after - before;
    }

    private static long dearOnes(RubberBandsHoldFamilies x, int i) {
        return x.order(i % 7) + x.untangle() + x.renew(4, 1) + x.night(0, 1, 20, 1) + x.generations(20, i, 1)
            + x.still() + x.snappedIn(60) + x.rest(i % 7) + x.lurch(0, 0) + x.gauges(0, 5, 0) + x.judge(0) + x.forged(0)
            + x.bridges() + x.clans(1) + x.cousins(0, 6) + x.crossing(0) + x.two(0, 1) + x.mean(1) + x.town(1)
            + x.christmas(2) + x.frost(1) + x.firstSnap(1) + x.mayGo(0, 0) + x.letGo(0, 30) + x.farthest(0);
    }
}
