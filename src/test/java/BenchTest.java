/** Promises 26 to 30: one stop more or less. */
public final class BenchTest {
    private BenchTest() {
    }

    public static void main(String[] args) {
        bench();
        give();
        order();
        thins();
        across();
        Due.end();
    }

    /** As in SetsTest, but for the numbers: 5520 with all, 5000 without the last. */
    private static BetweenStops town() {
        BetweenStops x = new BetweenStops();
        x.stop(0, 0, 0, 0);
        x.stop(0, 40, 0, 0);
        x.stop(0, 20, 60, 0);
        x.trip(0, 40, 10, 0);
        x.trip(20, 40, 1, 0);
        x.trip(0, 20, 1, 0);
        return x;
    }

    private static void bench(BetweenStops x, int p, long... want) {
        for (int what = 0; what < want.length; what++) {
            Due.due("bench " + p + " " + what, x.bench(p, what), want[what]);
        }
    }

    private static void bench() {
        BetweenStops x = town();
        bench(x, 2, -520, 2, 10, 40);
        bench(x, 0, 2840, 11, 0, 280);
        x.open(2, 0);
        bench(x, 2, 520, 10, 2, 60);
        bench(x, 1, 3800, 10, 0, 380);
        x.open(1, 0);
        bench(x, 1, -3800, 0, 10, 0);
        bench(x, 0, 0, 0, 0, 0);
        Due.due("what is asked opens none", x.count(2), 1);
        BetweenStops one = new BetweenStops();
        one.stop(0, 0, 0, 0);
        one.stop(0, 40, 0, 0);
        one.stop(0, 20, 1, 0);
        one.trip(0, 40, 7, 0);
        bench(one, 2, -7, 0, 7, 0);
        one.open(2, 0);
        bench(one, 2, 7, 7, 0, 1);
        Due.due("bench 3", x.bench(3, 0), BetweenStops.NO);
        Due.due("bench -1", x.bench(-1, 0), BetweenStops.NO);
        Due.due("bench what 4", x.bench(0, 4), BetweenStops.NO);
        Due.due("bench what -1", x.bench(0, -1), BetweenStops.NO);
    }

    private static void give() {
        BetweenStops x = town();
        Due.due("give", x.give(), 2);
        Due.due("give again", x.give(), 2);
        x.open(2, 0);
        Due.due("the least of like ones", x.give(), 0);
        x.open(0, 0);
        Due.due("the only one", x.give(), 1);
        x.open(1, 0);
        Due.due("none is open", x.give(), -1);
        Due.due("no stops", new BetweenStops().give(), -1);
    }

    private static void order() {
        BetweenStops x = town();
        Due.due("order 0", x.order(0), 0);
        Due.due("order 1", x.order(1), 3);
        Due.due("order 2", x.order(2), 31);
        Due.due("order 3", x.order(3), 312);
        Due.due("order 8", x.order(8), 312);
        Due.due("what is asked closes none", x.count(2), 3);
        x.open(0, 0);
        // Without 1 or 2 the total is 8800 alike.
        Due.due("order of two", x.order(8), 23);
        Due.due("order -1", x.order(-1), BetweenStops.BAD);
        Due.due("order 9", x.order(9), BetweenStops.BAD);
        Due.due("no stops", new BetweenStops().order(8), 0);
        BetweenStops eight = new BetweenStops();
        for (int p = 0; p < 8; p++) {
            eight.stop(0, p, 0, 0);
        }
        Due.due("order of eight", eight.order(8), 12345678);
    }

    private static void thins() {
        BetweenStops x = town();
        Due.due("thins", x.thins(), 1);
        Due.due("truly", x.told(2, 3), 0);
        Due.due("the others stay", x.count(2), 2);
        Due.due("no more of them", x.thins(), 0);
        x.open(2, 1);
        x.open(0, 0);
        // Two are left; 20 to 40 costs less with both than walked.
        Due.due("none of two", x.thins(), 0);
        BetweenStops nobody = new BetweenStops();
        nobody.stop(0, 1, 1, 1);
        nobody.stop(0, 2, 1, 1);
        nobody.stop(0, 3, 1, 1);
        Due.due("the total is no more", nobody.thins(), 3);
        Due.due("none is open", nobody.count(2), 0);
        Due.due("none to give", nobody.thins(), 0);
        BetweenStops eight = new BetweenStops();
        for (int p = 0; p < 8; p++) {
            eight.stop(p % 6, 5 * p, p, p);
        }
        Due.due("all eight", eight.thins(), 8);
        // 12360; without the last one 12600, without another one more still.
        BetweenStops needed = new BetweenStops();
        needed.stop(0, 0, 0, 0);
        needed.stop(0, 40, 0, 0);
        needed.stop(0, 20, 60, 0);
        needed.trip(0, 40, 10, 0);
        needed.trip(20, 40, 20, 0);
        needed.trip(0, 20, 1, 0);
        Due.due("the one to give up", needed.give(), 2);
        Due.due("is needed", needed.thins(), 0);
        Due.due("and stays open", needed.count(2), 3);
    }

    private static void across() {
        BetweenStops x = new BetweenStops();
        x.stop(0, 0, 0, 0);
        x.stop(0, 40, 0, 0);
        x.stop(3, 20, 7, 60);
        x.trip(0, 40, 10, 0);
        Due.due("across", x.across(2), 600);
        x.turns(2, 1);
        // (127 + 67) and (127 + 7) by 2, both cut.
        Due.due("one car alone", x.across(2), 300);
        x.open(2, 0);
        Due.due("not open", x.across(2), 0);
        Due.due("as it was", x.told(2, 2), 67);
        Due.due("not SHARED", x.across(0), BetweenStops.NO);
        Due.due("across 3", x.across(3), BetweenStops.NO);
        Due.due("across -1", x.across(-1), BetweenStops.NO);
        x.stop(5, 20, 7, 60);
        Due.due("TOLD is not SHARED", x.across(3), BetweenStops.NO);
    }
}
