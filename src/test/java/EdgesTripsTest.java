/** The edges of the terms of trips and ways, and of promises 11 to 15. */
public final class EdgesTripsTest {
    private static final int BAD = BetweenStops.BAD, FULL = BetweenStops.FULL;
    private static final long NO = BetweenStops.NO;

    private EdgesTripsTest() {
    }

    public static void main(String[] args) {
        numbers();
        ways();
        waiting();
        oneCar();
        riding();
        between();
        costs();
        bestWay();
        total();
        trip();
        count();
        takes();
        sum();
        use();
        Due.end();
    }

    private static void numbers() {
        Edges.words("TRIPS are numbered from 0 on, 8 at most: from a CELL to a CELL, MANY people (1 .. 99) of a SORT.");
        BetweenStops x = new BetweenStops();
        for (int i = 0; i < 8; i++) {
            Edges.due("none of this number yet", x.takes(i, 0), -5);
            Edges.due("the next number", x.trip(40, 0, 99, i % 3), i);
            Edges.due("how many", x.count(1), i + 1);
        }
        Edges.due("a ninth", x.trip(0, 0, 1, 0), FULL);
        Edges.due("none of number 8", x.takes(8, 0), -5);
        Edges.refused("a ninth leaves the eight as they were", FULL, Towns::full, y -> y.trip(0, 0, 1, 0));
        Edges.bounds(BAD, 1, 99, Towns::rich, (y, many) -> y.trip(0, 40, many, 0));
        Edges.due("from a cell to itself", Towns.rich().trip(40, 40, 1, 2), 5);
    }

    private static void takes(BetweenStops x, int i, int... want) {
        for (int what = 0; what < want.length; what++) {
            Edges.due("takes " + i + " " + what, x.takes(i, what), want[what]);
        }
    }

    private static void ways() {
        Edges.words("WAYS: to WALK it; or to WALK to an OPEN STOP, wait, ride to another OPEN one, WALK on.");
        BetweenStops x = new BetweenStops();
        x.car(0, 1);
        x.trip(0, 40, 1, 0);
        takes(x, 0, 800, -1, -1, 400, 0, 0);
        x.stop(0, 0, 0, 0);
        takes(x, 0, 800, -1, -1, 400, 0, 0);
        x.stop(0, 39, 0, 0);
        takes(x, 0, 20 + 117, 0, 1, 10, 0, 117);
        x.open(0, 0);
        takes(x, 0, 800, -1, -1, 400, 0, 0);
        x.open(0, 1);
        x.open(1, 0);
        takes(x, 0, 800, -1, -1, 400, 0, 0);
        // Beyond the door, and back.
        BetweenStops back = new BetweenStops();
        back.car(0, 1);
        back.stop(0, 0, 0, 0);
        back.stop(0, 40, 0, 0);
        back.trip(1, 39, 1, 0);
        takes(back, 0, 40 + 120, 0, 1, 20, 0, 120);
        back.trip(40, 0, 1, 0);
        takes(back, 1, 120, 1, 0, 0, 0, 120);
        // Two stops of one cell are two: to get in at one and out at the other takes no riding.
        BetweenStops same = new BetweenStops();
        same.car(0, 1);
        same.sort(0, 2, 0);
        same.stop(0, 20, 9, 0);
        same.stop(0, 20, 9, 0);
        same.trip(0, 40, 1, 0);
        takes(same, 0, 0, -1, -1, 400, 0, 0);
    }

    private static void waiting() {
        Edges.words("By both cars, if both STOP at both of these: waiting EVERY by 2 (cut)");
        int[][] due = {{1, 0}, {2, 1}, {3, 1}, {299, 149}, {300, 150}};
        for (int[] d : due) {
            BetweenStops x = Towns.ends(d[0]);
            x.trip(0, 40, 1, 0);
            takes(x, 0, 2 * d[1] + 120, 0, 1, 0, d[1], 120);
        }
        BetweenStops x = Towns.ends(3600);
        x.sort(0, 3, 0);
        x.trip(0, 40, 1, 0);
        takes(x, 0, 120, 0, 1, 0, 1800, 120);
    }

    private static void oneCar() {
        Edges.words("else by the one that does (none: it is no way): waiting EVERY, riding what it takes.");
        for (int car = 0; car < 2; car++) {
            BetweenStops x = Towns.ends(1);
            x.trip(0, 40, 1, 0);
            x.turns(0, 1 + car);
            takes(x, 0, 2 + 120, 0, 1, 0, 1, 120);
            x.turns(1, 1 + car);
            takes(x, 0, 2 + 120, 0, 1, 0, 1, 120);
            x.turns(0, 0);
            takes(x, 0, 2 + 120, 0, 1, 0, 1, 120);
            x.turns(0, 2 - car);
            takes(x, 0, 800, -1, -1, 400, 0, 0);
            x.turns(1, 0);
            takes(x, 0, 2 + 120, 0, 1, 0, 1, 120);
            // What stands in between costs just the car that stops at it.
            x.stop(4, 20, 31, 1 - car);
            takes(x, 0, 2 + 120, 0, 1, 0, 1, 120);
            x.stop(2, 20, 31, 1 - car);
            takes(x, 0, 2 + 120 + 31, 0, 1, 0, 1, 151);
        }
        BetweenStops none = Towns.ends(1);
        none.stop(2, 0, 0, 0);
        none.stop(4, 40, 0, 0);
        none.open(0, 0);
        none.open(1, 0);
        none.trip(0, 40, 1, 0);
        takes(none, 0, 800, -1, -1, 400, 0, 0);
        BetweenStops noCar = Towns.ends(1);
        noCar.stop(2, 0, 0, 0);
        noCar.turns(2, 2);
        noCar.open(0, 0);
        noCar.trip(0, 40, 1, 0);
        takes(noCar, 0, 800, -1, -1, 400, 0, 0);
    }

    private static void riding() {
        Edges.words("riding what both cars take together by 2 (cut)");
        int[][] due = {{0, 120}, {1, 120}, {2, 121}, {3, 121}, {98, 169}, {99, 169}};
        for (int[] d : due) {
            BetweenStops x = Towns.ends(1);
            x.trip(0, 40, 1, 0);
            x.trip(40, 0, 1, 1);
            x.stop(2, 20, d[0], 0);
            takes(x, 0, d[1], 0, 1, 0, 0, d[1]);
            takes(x, 1, d[1], 1, 0, 0, 0, d[1]);
        }
        // Both cars' seconds are added ahead of the cut.
        BetweenStops both = Towns.ends(1);
        both.trip(0, 40, 1, 0);
        both.stop(2, 20, 1, 0);
        both.stop(2, 21, 1, 1);
        takes(both, 0, 121, 0, 1, 0, 0, 121);
    }

    private static void between() {
        Edges.words("A car takes PACE for each CELL between both STOPS, and the SECONDS of all STOPS in CELLS strictly between at "
            + "which it STOPS.");
        int[][] due = {{9, 0}, {10, 0}, {11, 40}, {29, 40}, {30, 0}, {31, 0}, {0, 0}, {40, 0}};
        for (int[] d : due) {
            BetweenStops x = new BetweenStops();
            x.car(0, 1);
            x.sort(0, 2, 9);
            x.stop(0, 10, 99, 0);
            x.stop(0, 30, 99, 0);
            x.stop(0, d[0], 40, 0);
            x.trip(10, 30, 1, 0);
            x.trip(30, 10, 1, 0);
            takes(x, 0, 60 + d[1], 0, 1, 0, 0, 60 + d[1]);
            takes(x, 1, 60 + d[1], 1, 0, 0, 0, 60 + d[1]);
            x.open(2, 0);
            takes(x, 0, 60, 0, 1, 0, 0, 60);
        }
        BetweenStops next = new BetweenStops();
        next.car(0, 1);
        next.car(1, 60);
        next.sort(0, 0, 60);
        next.stop(0, 10, 99, 0);
        next.stop(0, 11, 99, 0);
        next.trip(10, 11, 1, 0);
        takes(next, 0, 60, 0, 1, 0, 0, 60);
        BetweenStops slow = Towns.ends(1);
        slow.car(1, 60);
        slow.sort(0, 4, 0);
        slow.trip(0, 40, 1, 0);
        takes(slow, 0, 0, 0, 1, 0, 0, 2400);
        for (int i = 0; i < 6; i++) {
            slow.stop(3, 39, 99, 60);
        }
        takes(slow, 0, 0, 0, 1, 0, 0, 2400 + 6 * 159);
    }

    private static void costs() {
        Edges.words("A WAY costs its seconds of WALKING, WAITING, RIDING times what these are worth.");
        BetweenStops x = new BetweenStops();
        x.car(0, 200);
        x.stop(0, 3, 0, 0);
        x.stop(0, 38, 0, 0);
        x.sort(2, 2, 9);
        x.sort(2, 3, 8);
        x.sort(2, 4, 7);
        x.trip(0, 40, 1, 2);
        takes(x, 0, 9 * 30 + 8 * 100 + 7 * 105, 0, 1, 30, 100, 105);
        BetweenStops dear = new BetweenStops();
        for (int c = 1; c <= 40; c += 2) {
            dear.road(c, 9);
        }
        dear.sort(0, 0, 60);
        dear.sort(0, 1, 60);
        dear.sort(0, 2, 9);
        for (int i = 0; i < 8; i++) {
            dear.trip(0, 40, 99, 0);
        }
        Edges.due("as dear as can be", dear.takes(7, 0), 13200 * 9);
        Edges.due("all together", dear.sum(0), 8L * 99 * 13200 * 9);
    }

    private static void bestWay() {
        Edges.words("THE BEST: to WALK, but for the first (by the STOP at which one gets in, then the one at which one gets out) that "
            + "costs less than all ahead of it.");
        BetweenStops like = Towns.ends(1);
        like.trip(0, 40, 1, 0);
        like.sort(0, 0, 3);
        like.sort(0, 2, 1);
        takes(like, 0, 120, -1, -1, 120, 0, 0);
        like.sort(0, 0, 4);
        takes(like, 0, 120, 0, 1, 0, 0, 120);
        // The first in comes ahead of the first out: 0 to 3 is ahead of 2 to 1.
        BetweenStops in = new BetweenStops();
        in.car(0, 1);
        in.stop(0, 0, 0, 0);
        in.stop(0, 40, 0, 0);
        in.stop(0, 0, 0, 0);
        in.stop(0, 40, 0, 0);
        in.trip(0, 40, 1, 0);
        in.trip(40, 0, 1, 0);
        takes(in, 0, 120, 0, 1);
        takes(in, 1, 120, 1, 0);
        in.open(1, 0);
        takes(in, 0, 120, 0, 3);
        takes(in, 1, 120, 3, 0);
        in.open(0, 0);
        takes(in, 0, 120, 2, 3);
        // Not the first that costs less than to walk, but what costs less than all.
        BetweenStops later = new BetweenStops();
        later.car(0, 1);
        later.stop(0, 5, 0, 0);
        later.stop(0, 20, 0, 0);
        later.stop(0, 0, 0, 0);
        later.stop(0, 40, 0, 0);
        later.trip(0, 40, 1, 0);
        takes(later, 0, 120, 2, 3, 0, 0, 120);
    }

    private static void total() {
        Edges.words("The TOTAL: of all TRIPS MANY times what the best costs.");
        BetweenStops x = new BetweenStops();
        Edges.due("of none", x.sum(0), 0);
        x.trip(3, 3, 99, 0);
        Edges.due("of one that costs nothing", x.sum(0), 0);
        x.trip(3, 4, 99, 0);
        Edges.due("of 99", x.sum(0), 99 * 20);
        x.trip(3, 4, 1, 1);
        Edges.due("and of one more", x.sum(0), 99 * 20 + 45);
    }

    private static void trip() {
        Edges.words("A TRIP: its number. BAD; FULL.");
        Edges.due("its number", Towns.rich().trip(0, 40, 99, 2), 5);
        Edges.refused("BAD CELL ahead of FULL", BAD, Towns::full, x -> x.trip(41, 0, 1, 0));
        Edges.refused("BAD other CELL ahead of FULL", BAD, Towns::full, x -> x.trip(0, -1, 1, 0));
        Edges.refused("BAD MANY ahead of FULL", BAD, Towns::full, x -> x.trip(0, 0, 0, 0));
        Edges.refused("BAD SORT ahead of FULL", BAD, Towns::full, x -> x.trip(0, 0, 1, 3));
        Edges.refused("all BAD", BAD, Towns::rich, x -> x.trip(-1, -1, 100, -1));
        BetweenStops x = new BetweenStops();
        x.trip(0, 0, 100, 0);
        Edges.due("a refused one takes no number", x.trip(0, 0, 99, 0), 0);
    }

    private static void count() {
        Edges.words("0 STOPS, 1 TRIPS, 2 OPEN ones, 3 TEXTS, 4 THE LAW, 5 bytes of THE TAPE, 6 EVERY, 7 PACE. BAD.");
        Edges.bounds(BAD, 0, 7, Towns::rich, (x, what) -> x.count(what));
        int[][] due = {{0, 0, 0, 1, 0, 0, 300, 3}, {6, 5, 4, 2, 1, 18, 60, 2}, {8, 8, 8, 6, 0, 160, 40, 3}};
        for (int what = 0; what < 8; what++) {
            Edges.due("of nothing: " + what, Towns.empty().count(what), due[0][what]);
            Edges.due("of something: " + what, Towns.rich().count(what), due[1][what]);
            Edges.due("of all: " + what, Towns.full().count(what), due[2][what]);
        }
    }

    private static void takes() {
        Edges.words("Of the best way of a TRIP what 0 it costs, 1 the STOP at which one gets in (-1), 2 out (-1), seconds of 3 WALKING, "
            + "4 WAITING, 5 RIDING. -5: no such TRIP; -7: what.");
        Edges.bounds(-5, 0, 4, Towns::rich, (x, i) -> x.takes(i, 0));
        Edges.bounds(-7, 0, 5, Towns::rich, (x, what) -> x.takes(4, what));
        Edges.refused("-5 ahead of -7", -5, Towns::rich, x -> x.takes(5, 6));
        Edges.refused("-5, as there is none", -5, Towns::empty, x -> x.takes(0, 1));
        Edges.refused("-7 ahead of a -1", -7, Towns::rich, x -> x.takes(3, 6));
        BetweenStops x = Towns.ends(10);
        x.trip(7, 7, 1, 0);
        takes(x, 0, 0, -1, -1, 0, 0, 0);
        x.trip(0, 40, 1, 0);
        takes(x, 1, 130, 0, 1, 0, 5, 120);
    }

    private static void sum() {
        Edges.words("What 0 the TOTAL, 1 the first TRIP whose best way costs most (-1: none), 2 what that is (0). NO: what.");
        Edges.bounds(NO, 0, 2, Towns::rich, (x, what) -> x.sum(what));
        Edges.outside(NO, 0, 2, Towns::empty, (x, what) -> x.sum(what));
        BetweenStops x = new BetweenStops();
        Edges.due("none", x.sum(1), -1);
        Edges.due("of none", x.sum(2), 0);
        x.trip(7, 7, 1, 0);
        Edges.due("the only one, which costs nothing", x.sum(1), 0);
        Edges.due("nothing", x.sum(2), 0);
        x.trip(7, 8, 1, 0);
        x.trip(8, 7, 99, 0);
        Edges.due("the first of like ones, whatever MANY", x.sum(1), 1);
        Edges.due("for one of them", x.sum(2), 20);
        x.trip(7, 8, 1, 1);
        Edges.due("a later one that costs more", x.sum(1), 3);
        Edges.due("more", x.sum(2), 45);
    }

    private static void use() {
        Edges.words("How many people get in or out at a STOP. -5: no such STOP.");
        Edges.bounds(-5, 0, 5, Towns::rich, (x, p) -> x.use(p));
        Edges.refused("-5, as there is none", -5, Towns::empty, x -> x.use(0));
        BetweenStops x = Towns.ends(1);
        Edges.due("nobody", x.use(0), 0);
        for (int i = 0; i < 8; i++) {
            x.trip(i < 4 ? 0 : 40, i < 4 ? 40 : 0, 99, 0);
        }
        Edges.due("all, in or out", x.use(0), 8 * 99);
        Edges.due("all, out or in", x.use(1), 8 * 99);
        x.open(1, 0);
        Edges.due("nobody rides", x.use(0), 0);
        Edges.due("nobody, where it isn't open", x.use(1), 0);
    }
}
