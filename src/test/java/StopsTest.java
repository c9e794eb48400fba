/** Promises 6 to 15: stops, trips, the best ways. */
public final class StopsTest {
    private StopsTest() {
    }

    public static void main(String[] args) {
        stop();
        kinds();
        switches();
        trip();
        count();
        bestWay();
        oneCar();
        standing();
        standingNextDoor();
        firstOfLikeOnes();
        sum();
        use();
        Due.end();
    }

    private static void stop() {
        BetweenStops x = new BetweenStops();
        int[][] bad = {{-1, 0, 0, 0}, {6, 0, 0, 0}, {0, -1, 0, 0}, {0, 41, 0, 0}, {0, 0, -1, 0}, {0, 0, 100, 0}, {0, 0, 0, -1}, {0, 0, 0, 61}};
        for (int[] b : bad) {
            Due.due("stop that is BAD", x.stop(b[0], b[1], b[2], b[3]), BetweenStops.BAD);
        }
        for (int p = 0; p < 8; p++) {
            Due.due("stop " + p, x.stop(p % 6, p == 0 ? 0 : 40, 99, 60), p);
        }
        Due.due("a ninth stop", x.stop(0, 0, 0, 0), BetweenStops.FULL);
        Due.due("a ninth stop that is BAD", x.stop(6, 0, 0, 0), BetweenStops.BAD);
        Due.due("stops", x.count(0), 8);
    }

    private static void told(BetweenStops x, int p, int... want) {
        for (int what = 0; what < want.length; what++) {
            Due.due("told " + p + " " + what, x.told(p, what), want[what]);
        }
    }

    private static void kinds() {
        BetweenStops x = new BetweenStops();
        x.stop(0, 1, 25, 7);
        x.stop(1, 2, 25, 7);
        x.stop(2, 3, 25, 7);
        x.stop(3, 4, 25, 7);
        x.stop(4, 5, 25, 7);
        x.stop(5, 6, 25, 7);
        x.stop(2, 7, 25, 8);
        x.stop(4, 8, 25, 8);
        told(x, 0, 0, 1, 25, 1, 5, 3, 0);
        told(x, 1, 1, 2, 12, 1, 5, 3, 1);
        told(x, 2, 2, 3, 25, 1, 5, 2, 0);
        told(x, 3, 3, 4, 32, 1, 5, 3, 0);
        told(x, 4, 4, 5, 12, 1, 5, 1, 0);
        told(x, 5, 5, 6, 19, 1, 5, 3, 1);
        told(x, 6, 2, 7, 25, 1, 5, 1, 0);
        told(x, 7, 4, 8, 12, 1, 5, 2, 0);
        for (int p = 0; p < 8; p++) {
            x.want(p, 9);
            x.open(p, 0);
            x.turns(p, 1);
        }
        told(x, 0, 0, 1, 25, 0, 9, 1, 0);
        told(x, 1, 1, 2, 22, 0, 9, 1, 1);
        told(x, 2, 2, 3, 25, 0, 9, 0, 0);
        told(x, 3, 3, 4, 32, 0, 9, 1, 0);
        told(x, 4, 4, 5, 12, 0, 9, 1, 0);
        told(x, 5, 5, 6, 29, 0, 9, 1, 1);
        told(x, 7, 4, 8, 12, 0, 9, 0, 0);
        Due.due("told of none", x.told(8, 7), -5);
        Due.due("told of -1", x.told(-1, 0), -5);
        Due.due("told what 7", x.told(0, 7), -7);
        Due.due("told what -1", x.told(0, -1), -7);
    }

    private static void switches() {
        BetweenStops x = new BetweenStops();
        Due.due("open none", x.open(0, 2), BetweenStops.NONE);
        Due.due("want none", x.want(0, 11), BetweenStops.NONE);
        Due.due("turns none", x.turns(0, 3), BetweenStops.NONE);
        x.stop(0, 5, 5, 5);
        Due.due("open -1", x.open(-1, 0), BetweenStops.NONE);
        Due.due("want -1", x.want(-1, 0), BetweenStops.NONE);
        Due.due("turns -1", x.turns(-1, 0), BetweenStops.NONE);
        Due.due("open 2", x.open(0, 2), BetweenStops.BAD);
        Due.due("open below", x.open(0, -1), BetweenStops.BAD);
        Due.due("close", x.open(0, 0), 1);
        Due.due("closed", x.open(0, 0), 0);
        Due.due("open again", x.open(0, 1), 0);
        Due.due("want 11", x.want(0, 11), BetweenStops.BAD);
        Due.due("want below", x.want(0, -1), BetweenStops.BAD);
        Due.due("want 10", x.want(0, 10), 5);
        Due.due("want 0", x.want(0, 0), 10);
        Due.due("wanted", x.told(0, 4), 0);
        Due.due("turns 3", x.turns(0, 3), BetweenStops.BAD);
        Due.due("turns below", x.turns(0, -1), BetweenStops.BAD);
        Due.due("turns 2", x.turns(0, 2), 0);
        Due.due("by car 1", x.told(0, 5), 2);
        Due.due("turns 1", x.turns(0, 1), 2);
        Due.due("by car 0", x.told(0, 5), 1);
        Due.due("turns 0", x.turns(0, 0), 1);
        Due.due("by both", x.told(0, 5), 3);
    }

    private static void trip() {
        BetweenStops x = new BetweenStops();
        int[][] bad = {{-1, 0, 1, 0}, {41, 0, 1, 0}, {0, -1, 1, 0}, {0, 41, 1, 0}, {0, 0, 0, 0}, {0, 0, 100, 0}, {0, 0, 1, -1}, {0, 0, 1, 3}};
        for (int[] b : bad) {
            Due.due("trip that is BAD", x.trip(b[0], b[1], b[2], b[3]), BetweenStops.BAD);
        }
        for (int i = 0; i < 8; i++) {
            Due.due("trip " + i, x.trip(i, 40 - i, i == 0 ? 1 : 99, i % 3), i);
        }
        Due.due("a ninth trip", x.trip(0, 0, 1, 0), BetweenStops.FULL);
        Due.due("a ninth trip that is BAD", x.trip(0, 0, 0, 0), BetweenStops.BAD);
        Due.due("trips", x.count(1), 8);
    }

    private static void count() {
        BetweenStops x = new BetweenStops();
        x.stop(0, 1, 1, 1);
        x.stop(0, 1, 1, 1);
        x.open(0, 0);
        x.trip(0, 0, 1, 0);
        x.car(0, 77);
        x.car(1, 7);
        x.feed(1, 3);
        int[] want = {2, 1, 1, 1, 0, 3, 77, 7};
        for (int what = 0; what < want.length; what++) {
            Due.due("count " + what, x.count(what), want[what]);
        }
        Due.due("count 8", x.count(8), BetweenStops.BAD);
        Due.due("count -1", x.count(-1), BetweenStops.BAD);
    }

    private static void takes(BetweenStops x, int i, int... want) {
        for (int what = 0; what < want.length; what++) {
            Due.due("takes " + i + " " + what, x.takes(i, what), want[what]);
        }
    }

    private static void bestWay() {
        BetweenStops x = new BetweenStops();
        x.trip(0, 40, 10, 0);
        takes(x, 0, 800, -1, -1, 400, 0, 0);
        x.stop(0, 1, 20, 0);
        takes(x, 0, 800, -1, -1, 400, 0, 0);
        x.stop(0, 38, 20, 0);
        // 10 + 20 walked, 150 waited, 37 cells at 3.
        takes(x, 0, 60 + 300 + 111, 0, 1, 30, 150, 111);
        x.trip(38, 1, 1, 0);
        takes(x, 1, 300 + 111, 1, 0, 0, 150, 111);
        x.car(0, 301);
        takes(x, 0, 60 + 300 + 111, 0, 1, 30, 150, 111);
        x.sort(0, 3, 9);
        takes(x, 0, 800, -1, -1, 400, 0, 0);
        x.sort(0, 2, 9);
        takes(x, 0, 270 + 1350 + 111, 0, 1, 30, 150, 111);
        x.sort(0, 4, 0);
        takes(x, 0, 270 + 1350, 0, 1, 30, 150, 111);
        x.open(1, 0);
        takes(x, 0, 3600, -1, -1, 400, 0, 0);
        Due.due("takes of none", x.takes(2, 6), -5);
        Due.due("takes of -1", x.takes(-1, 0), -5);
        Due.due("takes what 6", x.takes(0, 6), -7);
        Due.due("takes what -1", x.takes(0, -1), -7);
    }

    private static void oneCar() {
        BetweenStops x = new BetweenStops();
        x.car(0, 101);
        x.trip(0, 40, 1, 0);
        x.stop(2, 0, 0, 0);
        x.stop(0, 40, 0, 0);
        // Just car 0 stops at both: the whole EVERY is waited.
        takes(x, 0, 202 + 120, 0, 1, 0, 101, 120);
        x.turns(1, 2);
        takes(x, 0, 800, -1, -1, 400, 0, 0);
        x.turns(1, 1);
        takes(x, 0, 202 + 120, 0, 1, 0, 101, 120);
        x.stop(4, 0, 0, 0);
        x.stop(4, 40, 0, 0);
        // Car 1 takes as long; the first two stand first.
        takes(x, 0, 202 + 120, 0, 1, 0, 101, 120);
        x.open(0, 0);
        takes(x, 0, 202 + 120, 2, 3, 0, 101, 120);
    }

    private static void standing() {
        BetweenStops x = new BetweenStops();
        x.car(0, 10);
        x.sort(0, 2, 9);
        x.trip(5, 35, 1, 0);
        x.stop(0, 5, 50, 0);
        x.stop(0, 35, 50, 0);
        x.stop(2, 20, 31, 0);
        x.stop(0, 5, 50, 0);
        x.stop(0, 35, 50, 0);
        // Car 0 stands 31 seconds in between, car 1 none: (90 + 31 + 90) by 2 is cut. Stops of the same cells don't count.
        takes(x, 0, 10 + 105, 0, 1, 0, 5, 105);
        x.stop(5, 34, 40, 9);
        takes(x, 0, 10 + 134, 0, 1, 0, 5, 134);
        x.open(2, 0);
        takes(x, 0, 10 + 119, 0, 1, 0, 5, 119);
        x.turns(5, 2);
        takes(x, 0, 10 + 104, 0, 1, 0, 5, 104);
        x.want(5, 0);
        takes(x, 0, 10 + 94, 0, 1, 0, 5, 94);
    }

    private static void standingNextDoor() {
        BetweenStops x = new BetweenStops();
        x.car(0, 2);
        x.sort(0, 2, 9);
        x.stop(0, 6, 8, 0);
        x.stop(0, 34, 16, 0);
        x.stop(0, 5, 1, 0);
        x.stop(0, 35, 2, 0);
        x.stop(0, 4, 32, 0);
        x.stop(0, 36, 64, 0);
        x.trip(5, 35, 1, 0);
        x.trip(35, 5, 1, 0);
        // Those in the next cells count, those in the cells themselves and outside don't.
        takes(x, 0, 2 + 90 + 24, 2, 3, 0, 1, 90 + 24);
        takes(x, 1, 2 + 90 + 24, 3, 2, 0, 1, 90 + 24);
    }

    private static void firstOfLikeOnes() {
        BetweenStops x = new BetweenStops();
        x.car(0, 2);
        x.stop(0, 40, 0, 0);
        x.stop(0, 40, 0, 0);
        x.stop(0, 0, 0, 0);
        x.stop(0, 0, 0, 0);
        x.trip(0, 40, 1, 0);
        x.trip(40, 0, 1, 0);
        x.trip(7, 7, 1, 0);
        takes(x, 0, 122, 2, 0, 0, 1, 120);
        takes(x, 1, 122, 0, 2, 0, 1, 120);
        takes(x, 2, 0, -1, -1, 0, 0, 0);
        // What costs as much as to walk is not taken.
        x.sort(0, 0, 1);
        x.sort(0, 2, 3);
        x.sort(0, 3, 0);
        takes(x, 0, 120, -1, -1, 40, 0, 0);
    }

    private static void sum() {
        BetweenStops x = new BetweenStops();
        Due.due("nobody's total", x.sum(0), 0);
        Due.due("nobody's first", x.sum(1), -1);
        Due.due("nobody's most", x.sum(2), 0);
        x.trip(3, 3, 5, 0);
        Due.due("most of nothing", x.sum(1), 0);
        x.trip(0, 10, 3, 0);
        x.trip(30, 20, 4, 0);
        Due.due("total", x.sum(0), 7 * 200);
        Due.due("first that costs most", x.sum(1), 1);
        Due.due("most", x.sum(2), 200);
        x.trip(0, 7, 99, 1);
        Due.due("total then", x.sum(0), 1400 + 99 * 315);
        Due.due("first then", x.sum(1), 3);
        Due.due("most then", x.sum(2), 315);
        Due.due("sum 3", x.sum(3), BetweenStops.NO);
        Due.due("sum -1", x.sum(-1), BetweenStops.NO);
    }

    private static void use() {
        BetweenStops x = new BetweenStops();
        x.car(0, 2);
        x.stop(0, 0, 0, 0);
        x.stop(0, 20, 0, 0);
        x.stop(0, 40, 0, 0);
        x.trip(0, 40, 5, 0);
        x.trip(40, 20, 7, 0);
        x.trip(20, 21, 90, 0);
        Due.due("use 0", x.use(0), 5);
        Due.due("use 1", x.use(1), 7);
        Due.due("use 2", x.use(2), 12);
        x.open(2, 0);
        Due.due("use of one that isn't open", x.use(2), 0);
        Due.due("use 3", x.use(3), -5);
        Due.due("use -1", x.use(-1), -5);
    }
}
