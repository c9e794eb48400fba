/** Promises 36 to 40: cars one behind the other, drawn days, the image. */
public final class CarsTest {
    private CarsTest() {
    }

    public static void main(String[] args) {
        bunch();
        late();
        crowd();
        drawn();
        drawnAside();
        drawnCar();
        image();
        imageOfAll();
        tripsGone();
        Due.end();
    }

    private static BetweenStops cars(String late) {
        BetweenStops x = new BetweenStops();
        x.car(0, 20);
        x.car(1, 1);
        Due.due("text", Due.textOf(x, "stay 0;late " + late + ";ask 0;"), 1);
        x.force(1);
        return x;
    }

    private static void bunch() {
        BetweenStops x = cars("0");
        Due.due("nothing on the way", x.bunch(0, 0), 40);
        Due.due("late", x.bunch(0, 3600), 3640);
        Due.due("just the first is late", x.bunch(11, 3600), 260);
        x.stop(0, 10, 50, 0);
        // There at 10, off at 60; the next one is there at 30, and goes in at 60.
        int[] ends = {90, 140, 190, 240};
        for (int k = 0; k < ends.length; k++) {
            Due.due("bunch " + k, x.bunch(k, 0), ends[k]);
        }
        Due.due("late, the first", x.bunch(0, 100), 190);
        Due.due("late, the next", x.bunch(1, 100), 240);
        x.open(0, 0);
        Due.due("not open", x.bunch(1, 0), 60);
        x.open(0, 1);
        x.turns(0, 2);
        Due.due("car 0 passes", x.bunch(0, 0), 40);
        Due.due("car 1 stands", x.bunch(1, 0), 110);
        Due.due("car 2 passes", x.bunch(2, 0), 80);
        Due.due("car 3 waits for car 1", x.bunch(3, 0), 160);
        x.turns(0, 0);
        x.stop(4, 10, 20, 0);
        x.stop(1, 40, 9, 0);
        x.stop(5, 0, 9, 1);
        // Just car 1 stops at the SECOND: 10 more, right behind the first of its cell.
        Due.due("all, the first", x.bunch(0, 0), 5 + 10 + 50 + 30 + 4);
        Due.due("all, the next", x.bunch(1, 0), 115 + 10 + 30 + 4);
        Due.due("bunch -1", x.bunch(-1, 0), BetweenStops.BAD);
        Due.due("bunch 12", x.bunch(12, 0), BetweenStops.BAD);
        Due.due("late -1", x.bunch(0, -1), BetweenStops.BAD);
        Due.due("late 3601", x.bunch(0, 3601), BetweenStops.BAD);
    }

    private static void late() {
        BetweenStops x = cars("wait");
        x.stop(0, 10, 0, 0);
        // Since -20, at 10: 30. Off at 40. The next one is there at 40, off then.
        Due.due("wait of the first", x.bunch(0, 0), 70);
        Due.due("wait of the next", x.bunch(1, 0), 70);
        Due.due("wait of the third", x.bunch(2, 0), 40 + 10 + 10 + 30);
        Due.due("999 at most", x.bunch(0, 3600), 3610 + 999 + 30);
        BetweenStops y = cars("many*100+sort*10+cost+walk+ride");
        y.stop(0, 1, 0, 0);
        y.stop(0, 40, 0, 0);
        y.trip(1, 40, 3, 0);
        y.trip(40, 40, 9, 0);
        // Since -20, at 1: 3 times 21 by 20 is 3. At 40 of 340: 3 times 360 by 20 is 54, and ten more; 999 at most.
        Due.due("many, and its number", y.bunch(0, 0), 1 + 300 + 39 + 999);
        Due.due("just one", y.told(0, 3) + y.use(0), 4);
        y.open(1, 0);
        Due.due("nobody gets in", y.bunch(0, 0), 40);
        BetweenStops first = cars("wait");
        first.stop(0, 0, 0, 0);
        Due.due("right where it leaves", first.bunch(0, 0), 20 + 40);
        first.car(0, 1);
        first.stop(0, 40, 0, 0);
        first.trip(0, 40, 2, 0);
        Due.textOf(first, "stay 0;late many;ask 0;");
        first.force(2);
        // 2 times 1 by 1, then 2 times (42 + 1) by 1.
        Due.due("every second", first.bunch(0, 0), 2 + 40 + 86);
        BetweenStops atFirst = new BetweenStops();
        atFirst.stop(0, 0, 0, 0);
        atFirst.stop(0, 40, 0, 0);
        atFirst.trip(0, 40, 3, 0);
        // 3 times 300 by 300 is 3; 3 times 426 by 300 is 4.
        Due.due("by the first law", atFirst.bunch(0, 0), 6 + 120 + 8);
        BetweenStops z = cars("0-wait");
        z.stop(0, 10, 7, 0);
        Due.due("0 at least", z.bunch(0, 0), 47);
    }

    private static void crowd() {
        BetweenStops x = cars("0");
        Due.due("crowd", x.crowd(2, 0), 20);
        Due.due("crowd of a late one", x.crowd(3, 15), 5);
        Due.due("overtaken", x.crowd(2, 100), -80);
        Due.due("overtaken, of twelve", x.crowd(12, 100), -80);
        x.stop(0, 10, 50, 0);
        Due.due("one behind the other", x.crowd(12, 0), 50);
        x.turns(0, 1);
        Due.due("car 1 passes car 0", x.crowd(2, 0), -30);
        // Ends 90, 60, 140, 100.
        Due.due("car 3 passes car 2", x.crowd(4, 0), -40);
        x.turns(0, 2);
        Due.due("car 1 stands", x.crowd(2, 0), 70);
        Due.due("car 2 passes car 1", x.crowd(3, 0), -30);
        Due.due("crowd 1", x.crowd(1, 0), BetweenStops.BAD);
        Due.due("crowd 13", x.crowd(13, 0), BetweenStops.BAD);
        Due.due("crowd late -1", x.crowd(2, -1), BetweenStops.BAD);
        Due.due("crowd late 3601", x.crowd(2, 3601), BetweenStops.BAD);
    }

    /** Lots of seed 0 behind the first, modulo 10: 4 6 7 1 3; of seed 1: 8 5 7 5 6. */
    private static void drawn() {
        BetweenStops x = new BetweenStops();
        x.car(0, 2);
        x.stop(0, 0, 50, 0);
        x.stop(0, 40, 50, 0);
        x.stop(1, 10, 20, 0);
        x.stop(5, 20, 30, 7);
        x.stop(2, 30, 40, 0);
        x.trip(0, 40, 1, 0);
        x.trip(40, 0, 1, 0);
        x.trip(5, 6, 1, 0);
        // The first lot of seed 0 is 48271: car 1, which does not stop at the TURN; 7 is not below 5, 1 is.
        Due.due("seed 0", x.drawn(0, 0), 120 + 37);
        Due.due("seed 0 the other way", x.drawn(1, 0), 120 + 37);
        Due.due("seed 1", x.drawn(0, 1), 120 + 40);
        x.want(2, 8);
        x.want(3, 1);
        Due.due("seed 0, as wanted", x.drawn(0, 0), 120 + 20);
        x.want(2, 7);
        x.want(3, 2);
        Due.due("seed 0, 7 is not below 7", x.drawn(0, 0), 120 + 37);
        x.want(2, 10);
        x.want(3, 10);
        Due.due("seed 99999, all wanted", x.drawn(0, 99999) % 40, 120 % 40 + 57 - 40);
        x.open(3, 0);
        Due.due("not open, but with a lot", x.drawn(0, 1), 120 + 20 + 40);
        Due.due("walks", x.drawn(2, 0), BetweenStops.STATE);
        Due.due("drawn 3", x.drawn(3, -1), -5);
        Due.due("drawn -1", x.drawn(-1, 0), -5);
        Due.due("seed -1", x.drawn(2, -1), -7);
        Due.due("seed 100000", x.drawn(0, 100000), -7);
    }

    private static void drawnAside() {
        BetweenStops x = new BetweenStops();
        x.car(0, 2);
        x.sort(0, 2, 9);
        x.stop(0, 5, 1, 0);
        x.stop(0, 35, 2, 0);
        x.stop(0, 6, 4, 0);
        x.stop(0, 34, 8, 0);
        x.stop(0, 4, 16, 0);
        x.stop(0, 36, 32, 0);
        x.trip(5, 35, 1, 0);
        x.trip(35, 5, 1, 0);
        Due.due("from 5 to 35", x.drawn(0, 0), 90 + 12);
        Due.due("from 35 to 5", x.drawn(1, 1), 90 + 12);
    }

    private static void drawnCar() {
        BetweenStops x = new BetweenStops();
        x.car(0, 2);
        x.stop(2, 0, 0, 0);
        x.stop(0, 40, 0, 0);
        x.stop(2, 20, 40, 0);
        x.stop(4, 21, 50, 0);
        x.stop(5, 22, 9, 3);
        x.trip(0, 40, 1, 0);
        // Car 0 alone goes, whatever the first lot says; the lots of the stops come behind it all the same.
        x.want(4, 4);
        Due.due("just car 0, 3 is below 4", x.drawn(0, 0), 120 + 40 + 12);
        x.want(4, 3);
        Due.due("just car 0, 3 is not below 3", x.drawn(0, 0), 120 + 40);
        x.turns(1, 1);
        x.turns(0, 1);
        Due.due("by its pattern", x.drawn(0, 0), 120 + 40);
        x.open(0, 0);
        x.stop(4, 0, 0, 0);
        x.turns(1, 2);
        Due.due("just car 1", x.drawn(0, 1), 120 + 25);
    }

    private static void image() {
        BetweenStops x = new BetweenStops();
        Due.due("no image", x.back(), BetweenStops.STATE);
        Due.due("image of no stops", x.image(), 0);
        x.stop(0, 1, 1, 1);
        x.open(0, 0);
        x.trip(0, 1, 1, 0);
        Due.due("back", x.back(), 1);
        Due.due("one that came since stays", x.told(0, 3), 0);
        Due.due("no trips", x.count(1), 0);
        Due.due("none lies there", x.taken(0, 6), -11);
        x.trip(2, 3, 4, 1);
        Due.due("image", x.image(), 1);
        x.open(0, 1);
        x.trip(0, 1, 9, 0);
        Due.due("back again", x.back(), 1);
        Due.due("as in the newer image", x.told(0, 3), 0);
        Due.due("trips of it", x.count(1), 1);
        Due.due("the trip", x.taken(0, 6), 4);
        Due.due("the next trip", x.trip(0, 1, 7, 0), 1);
        Due.due("is a new one", x.taken(1, 6), 7);
        Due.due("and back once more", x.back(), 1);
        Due.due("trips of it", x.count(1), 1);
    }

    /** A trip that back() takes away goes no more. */
    private static void tripsGone() {
        BetweenStops x = new BetweenStops();
        x.sort(1, 0, 60);
        x.stop(0, 0, 0, 0);
        x.stop(0, 40, 0, 0);
        x.sheet(0, 0, 2);
        x.trip(0, 1, 1, 0);
        x.image();
        x.trip(0, 40, 99, 1);
        Due.due("they ride", x.use(0), 99);
        Due.due("they walk far", x.judge(0), 1);
        x.back();
        Due.due("total", x.sum(0), 20);
        Due.due("first that costs most", x.sum(1), 0);
        Due.due("users", x.use(0), 0);
        Due.due("who walks far", x.judge(0), -1);
        Due.due("bound", x.bound(10), 0);
        Due.due("least", x.least(0), 0);
        Due.due("fair", x.fair(), 0);
        Due.due("bench 1", x.bench(0, 1), 0);
        Due.due("bench 3", x.bench(0, 3), 0);
        Due.due("homes", x.homes(), 0);
        Due.due("drawn", x.drawn(1, 0), -5);
    }

    private static void imageOfAll() {
        BetweenStops x = new BetweenStops();
        Due.textOf(x, "stay 1;late 0;ask 0;");
        x.road(5, 4);
        x.sort(1, 2, 9);
        x.car(0, 50);
        x.car(1, 5);
        x.stop(1, 3, 3, 3);
        x.want(0, 7);
        x.turns(0, 2);
        x.trip(0, 9, 8, 2);
        x.sheet(0, 0, 1);
        Due.due("image", x.image(), 1);
        x.road(5, 9);
        x.road(6, 9);
        x.sort(1, 2, 1);
        x.sort(0, 5, 1);
        x.car(0, 60);
        x.car(1, 6);
        x.want(0, 1);
        x.turns(0, 1);
        x.open(0, 0);
        x.stop(0, 7, 7, 7);
        x.want(1, 2);
        x.turns(1, 1);
        x.open(1, 0);
        x.force(1);
        x.trip(0, 9, 8, 2);
        x.feed(32, 1);
        x.sheet(0, 2, 3);
        Due.due("back", x.back(), 2);
        int[] counts = {2, 1, 1, 2, 0, 1, 50, 5};
        for (int what = 0; what < counts.length; what++) {
            Due.due("count " + what + " then", x.count(what), counts[what]);
        }
        Due.due("up the hill", x.walks(4, 5, 0), 10 + 20);
        Due.due("down the hill", x.walks(5, 7, 0), 20);
        Due.due("and from the other side", x.walks(7, 5, 0), 20 + 20);
        Due.due("road 5", x.road(5, 0), 4);
        Due.due("road 6", x.road(6, 0), 0);
        Due.due("sort 1 2", x.sort(1, 2, 0), 9);
        Due.due("sort 0 5", x.sort(0, 5, 0), 300);
        Due.due("want 0", x.want(0, 0), 7);
        Due.due("turns 0", x.turns(0, 0), 2);
        Due.due("open 0", x.open(0, 0), 1);
        Due.due("want 1", x.want(1, 0), 2);
        Due.due("turns 1", x.turns(1, 0), 1);
        Due.due("open 1", x.open(1, 0), 0);
        Due.due("a sheet is as it is", x.cell(0, 2, 0), 1);
    }
}
