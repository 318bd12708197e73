import com.sun.management.ThreadMXBean;
import java.lang.management.ManagementFactory;

/** All calls of a run share one room: an object takes little of it, and its calls take nothing more. */
final class RoomTest {
    private static final ThreadMXBean MEASURE = (ThreadMXBean) ManagementFactory.getThreadMXBean();
    private static final long SOME = 50_000;

    private long sum;

    public static void main(String[] args) {
        RoomTest test = new RoomTest();
        Due due = new Due();
        test.calls(new WeighedGate(), 3);
        long ahead = taken();
        WeighedGate x = new WeighedGate();
        long made = taken();
        test.calls(x, 100);
        long called = taken();
        due.holds("an object is small: " + (made - ahead), made - ahead < SOME);
        due.holds("calls make no objects: " + (called - made), called - made < SOME / 10);
        due.holds("calls were made", test.sum != 0);
        due.end();
    }

    private static long taken() {
        return MEASURE.getThreadAllocatedBytes(Thread.currentThread().getId());
    }

    private void calls(WeighedGate x, int times) {
        for (int k = 0; k < times; k++) {
            sum += x.image() + x.stone(3 + k % 7) + x.cart(k % 2, k % 6, 5, 50, 1) + x.cart(1 - k % 2, 4, 5, 9, 1);
            sum += x.set(0, 0, k % 3) + x.feed(5, 'm', 'a', 'y', ' ', '1') + x.text() + x.force(0);
            sum += x.own(99, 0) + x.makings(999, 0) + x.falsely(500) + x.make(7) + x.asks(1, 5, 5, 5);
            sum += x.scales(3, 4, 5) + x.pairs(4, 1) + x.against(4, 0) + x.best(5, 0);
            sum += x.dusk(10, 2) + x.goes(1, 0) + x.hold(1) + x.gain(0) + x.bring(1, 1);
            sum += x.film(0) + x.judge(0) + x.laws(0) + x.lost(3, 2, 10, 1);
            sum += x.drawn(k, 0) + x.odds(0, k, 10, 1);
            sum += x.sheet(1, 2, 40) + x.cell(1, 2, 9) + x.copy(1, 0, 1, 5, 30) + x.cartsBy(1, 2, 0, 8);
            sum += x.taken(5, 0) + x.cartTold(0, 3) + x.at(0, 3, 1) + x.count(4) + x.back();
        }
    }
}
