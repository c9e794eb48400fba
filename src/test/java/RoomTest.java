import java.lang.management.ManagementFactory;

/** How much one run takes: a new object once, its calls nothing. */
public final class RoomTest {
    private static final int CALLS = 512;
    private long sum = 0;

    private RoomTest() {
    }

    public static void main(String[] args) {
        RoomTest test = new RoomTest();
        // Once for the classes that the machine loads at first use.
        test.run();
        long before = allocated();
        BetweenStops x = new BetweenStops();
        long made = allocated() - before;
        Due.holds("a new object takes " + made + " bytes", made < 40000 && x.count(0) == 0);
        before = allocated();
        test.run();
        long taken = allocated() - before;
        Due.holds("512 dear calls take " + taken + " bytes", taken < made + 10000);
        Due.holds("they answered", test.sum != 0);
        Due.end();
    }

    private static long allocated() {
        return ((com.sun.management.ThreadMXBean) ManagementFactory.getThreadMXBean()).getCurrentThreadAllocatedBytes();
    }

    private void run() {
        BetweenStops x = new BetweenStops();
        for (int i = 0; i < 8; i++) {
            x.stop(i % 6, 5 * i, 20 + i, i);
            x.trip(5 * i, 40 - 5 * i, 50 + i, i % 3);
        }
        x.car(0, 60);
        for (int i = 16; i < CALLS; i++) {
            sum += call(x, i);
        }
    }

    private static long call(BetweenStops x, int i) {
        switch (i % 20) {
            case 0: return x.best(1);
            case 1: return x.patterns(1);
            case 2: return x.bound(100);
            case 3: return x.least(100);
            case 4: return x.fair();
            case 5: return x.fewest(500000);
            case 6: return x.order(8);
            case 7: return x.rest(0);
            case 8: return x.bunch(11, 100);
            case 9: return x.crowd(12, 100);
            case 10: return x.drawn(2, i);
            case 11: return x.asked();
            case 12: return x.image() + x.back();
            case 13: return x.sheet(i % 4, i % 3, 41);
            case 14: return x.copy(1, 0, 1, 1, 40);
            case 15: return x.feed(i, 8);
            case 16: return x.text();
            case 17: return x.bench(3, 0);
            case 18: return x.judge(2);
            default: return x.thins();
        }
    }
}
