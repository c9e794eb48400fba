/** The edges of the terms of the road, sorts and cars, and of promises 1 to 5. */
public final class EdgesRoadTest {
    private static final int NONE = BetweenStops.NONE, BAD = BetweenStops.BAD;

    private EdgesRoadTest() {
    }

    public static void main(String[] args) {
        cells();
        heights();
        sorts();
        paces();
        ups();
        worths();
        walksAtMost();
        sortsAtFirst();
        walking();
        cars();
        byTurns();
        newObject();
        road();
        sort();
        car();
        walks();
        Due.end();
    }

    private static void cells() {
        Edges.words("THE ROAD has CELLS 0 .. 40");
        Edges.bounds(NONE, 0, 40, Towns::rich, (x, c) -> x.road(c, 1));
        Edges.bounds(-5, 0, 40, Towns::rich, (x, c) -> x.walks(c, 7, 0));
        Edges.bounds(-5, 0, 40, Towns::rich, (x, c) -> x.walks(7, c, 0));
        Edges.bounds(BAD, 0, 40, Towns::rich, (x, c) -> x.stop(0, c, 0, 0));
        Edges.bounds(BAD, 0, 40, Towns::rich, (x, c) -> x.trip(c, 7, 1, 0));
        Edges.bounds(BAD, 0, 40, Towns::rich, (x, c) -> x.trip(7, c, 1, 0));
    }

    private static void heights() {
        Edges.words("each of a HEIGHT (0 .. 9; 0 at first)");
        Edges.bounds(BAD, 0, 9, Towns::rich, (x, h) -> x.road(40, h));
        BetweenStops x = new BetweenStops();
        for (int c = 0; c <= 40; c++) {
            Edges.due("at first, of cell " + c, x.road(c, 9), 0);
            Edges.due("then, of cell " + c, x.road(c, 0), 9);
            Edges.due("at last, of cell " + c, x.road(c, 0), 0);
        }
    }

    private static void sorts() {
        Edges.words("SORTS of people 0 .. 2");
        Edges.bounds(NONE, 0, 2, Towns::rich, (x, k) -> x.sort(k, 0, 7));
        Edges.bounds(-7, 0, 2, Towns::rich, (x, k) -> x.walks(3, 4, k));
        Edges.bounds(BAD, 0, 2, Towns::rich, (x, k) -> x.trip(3, 4, 1, k));
    }

    private static void paces() {
        Edges.words("PACE (1 .. 60 seconds a CELL)");
        for (int k = 0; k < 3; k++) {
            int sort = k;
            Edges.bounds(BAD, 1, 60, Towns::rich, (x, v) -> x.sort(sort, 0, v));
            BetweenStops x = new BetweenStops();
            x.sort(k, 0, 1);
            Edges.due("1 a cell", x.walks(0, 40, k), 40);
            x.sort(k, 0, 60);
            Edges.due("60 a cell", x.walks(40, 0, k), 2400);
        }
    }

    private static void ups() {
        Edges.words("UP (0 .. 60 seconds more for each step up in HEIGHT from CELL to CELL)");
        for (int k = 0; k < 3; k++) {
            int sort = k;
            Edges.bounds(BAD, 0, 60, Towns::rich, (x, v) -> x.sort(sort, 1, v));
        }
        BetweenStops x = new BetweenStops();
        x.road(20, 9);
        x.sort(0, 1, 60);
        Edges.due("nine steps up, then nine down", x.walks(0, 40, 0), 400 + 540);
        Edges.due("up alone", x.walks(19, 20, 0), 10 + 540);
        Edges.due("down alone", x.walks(20, 21, 0), 10);
        x.sort(0, 1, 0);
        Edges.due("steps that take nothing", x.walks(0, 40, 0), 400);
        for (int c = 1; c <= 40; c += 2) {
            x.road(c, 9);
        }
        x.road(20, 0);
        x.sort(0, 0, 60);
        x.sort(0, 1, 60);
        // Twenty times nine steps up, either way.
        Edges.due("as long as can be", x.walks(0, 40, 0), 2400 + 20 * 9 * 60);
        Edges.due("as long as can be, back", x.walks(40, 0, 0), 2400 + 20 * 9 * 60);
    }

    private static void worths() {
        Edges.words("what a second of WALKING, WAITING, RIDING is worth (0 .. 9 each)");
        for (int what = 2; what <= 4; what++) {
            int which = what;
            Edges.bounds(BAD, 0, 9, Towns::rich, (x, v) -> x.sort(0, which, v));
        }
        BetweenStops x = Towns.ends(10);
        x.trip(0, 40, 1, 0);
        Edges.due("rides", x.takes(0, 0), 5 * 2 + 120);
        x.sort(0, 3, 9);
        x.sort(0, 4, 9);
        Edges.due("what costs most is walked", x.takes(0, 0), 800);
        x.sort(0, 2, 9);
        Edges.due("all worth 9", x.takes(0, 0), 5 * 9 + 120 * 9);
        x.sort(0, 3, 0);
        Edges.due("waiting worth 0", x.takes(0, 0), 120 * 9);
        x.sort(0, 4, 0);
        Edges.due("riding worth 0, too", x.takes(0, 0), 0);
        Edges.due("and ridden", x.takes(0, 5), 120);
        x.sort(0, 2, 0);
        Edges.due("all worth 0", x.takes(0, 0), 0);
        Edges.due("and walked", x.takes(0, 3), 400);
    }

    private static void walksAtMost() {
        Edges.words("how long they walk at most (0 .. 9999)");
        for (int k = 0; k < 3; k++) {
            int sort = k;
            Edges.bounds(BAD, 0, 9999, Towns::rich, (x, v) -> x.sort(sort, 5, v));
        }
        BetweenStops x = new BetweenStops();
        x.sheet(0, 0, 0);
        x.sort(0, 5, 0);
        x.trip(7, 7, 1, 0);
        Edges.due("nothing walked is not more than 0", x.judge(0), -1);
        x.trip(7, 8, 1, 0);
        Edges.due("ten seconds are", x.judge(0), 1);
        x.sort(0, 5, 9);
        Edges.due("ten seconds are more than 9", x.judge(0), 1);
        x.sort(0, 5, 10);
        Edges.due("ten seconds are not more than 10", x.judge(0), -1);
        x.sort(0, 5, 9999);
        Edges.due("far from 9999", x.judge(0), -1);
    }

    private static void sortsAtFirst() {
        Edges.words("at first 10 5 2 2 1 300; 15 20 3 2 1 200; 6 2 1 3 1 600.");
        int[] first = {10, 5, 2, 2, 1, 300, 15, 20, 3, 2, 1, 200, 6, 2, 1, 3, 1, 600};
        BetweenStops x = new BetweenStops();
        for (int i = 0; i < first.length; i++) {
            Edges.due("sort " + i / 6 + " what " + i % 6, x.sort(i / 6, i % 6, 1), first[i]);
        }
    }

    private static void walking() {
        Edges.words("To WALK from CELL to CELL takes PACE for each CELL gone, and UP.");
        BetweenStops x = new BetweenStops();
        Edges.due("no cell gone", x.walks(40, 40, 0), 0);
        Edges.due("one cell gone", x.walks(40, 39, 0), 10);
        Edges.due("all cells gone", x.walks(0, 40, 0), 400);
        x.road(0, 1);
        Edges.due("off the first one, which is higher", x.walks(0, 1, 0), 10);
        Edges.due("up to the first one", x.walks(1, 0, 0), 15);
        x.road(40, 1);
        Edges.due("up to the last one", x.walks(39, 40, 0), 15);
        Edges.due("off the last one, which is higher", x.walks(40, 39, 0), 10);
        Edges.due("from one as high as where it ends", x.walks(0, 40, 0), 405);
    }

    private static void cars() {
        Edges.words("CARS come EVERY so many seconds (1 .. 3600; 300 at first), take PACE seconds a CELL (1 .. 60; 3 at first)");
        Edges.bounds(BAD, 1, 3600, Towns::rich, (x, v) -> x.car(0, v));
        Edges.bounds(BAD, 1, 60, Towns::rich, (x, v) -> x.car(1, v));
        BetweenStops x = new BetweenStops();
        Edges.due("both at first", x.bunch(1, 0), 300 + 120);
        Edges.due("EVERY at first", x.car(0, 3600), 300);
        Edges.due("PACE at first", x.car(1, 60), 3);
        Edges.due("the most of both", x.bunch(11, 0), 11 * 3600 + 40 * 60);
        x.car(0, 1);
        x.car(1, 1);
        Edges.due("the least of both", x.bunch(11, 0), 11 + 40);
    }

    private static void byTurns() {
        Edges.words("those by turns are cars 0 and 1.");
        BetweenStops x = new BetweenStops();
        x.car(0, 1);
        Due.textOf(x, "stay 0;late 0;ask 0;");
        x.force(1);
        x.stop(0, 0, 99, 0);
        x.turns(0, 2);
        for (int k = 0; k < 12; k++) {
            Edges.due("car " + k, x.bunch(k, 0), k % 2 == 0 ? k + 120 : 1 + 99 * (k / 2 + 1) + 120);
        }
    }

    private static void newObject() {
        Edges.words("No STOPS, TRIPS.");
        BetweenStops x = new BetweenStops();
        Edges.due("stops", x.count(0), 0);
        Edges.due("trips", x.count(1), 0);
        Edges.due("open ones", x.count(2), 0);
        Edges.due("told 0", x.told(0, 0), -5);
        Edges.due("use 0", x.use(0), -5);
        Edges.due("asks 0", x.asks(0), -5);
        Edges.due("open 0", x.open(0, 1), NONE);
        Edges.due("takes 0", x.takes(0, 0), -5);
        Edges.due("drawn 0", x.drawn(0, 0), -5);
        Edges.due("bench 0", x.bench(0, 0), BetweenStops.NO);
        Edges.due("across 0", x.across(0), BetweenStops.NO);
        Edges.due("homes", x.homes(), 0);
        Edges.due("a second object is as new", Reading.of(new BetweenStops()).compareTo(Reading.of(new BetweenStops())), 0);
    }

    private static void road() {
        Edges.words("HEIGHT of a CELL: what it was. NONE; BAD.");
        BetweenStops x = new BetweenStops();
        Edges.due("what it was", x.road(40, 9), 0);
        Edges.due("NONE", x.road(41, 9), NONE);
        Edges.due("BAD", x.road(40, 10), BAD);
        Edges.due("NONE ahead of BAD", x.road(41, 10), NONE);
        Edges.due("refused, it is as it was", x.road(40, 0), 9);
        Edges.refused("NONE, and as it was", NONE, Towns::rich, y -> y.road(-1, -1));
    }

    private static void sort() {
        Edges.words("Of a SORT what 0 PACE, 1 UP, 2 .. 4 what WALKING, WAITING, RIDING is worth, 5 how long they walk becomes v: "
            + "what was. NONE; BAD.");
        Edges.bounds(BAD, 0, 5, Towns::rich, (x, what) -> x.sort(1, what, 1));
        int[] most = {60, 60, 9, 9, 9, 9999};
        BetweenStops x = new BetweenStops();
        for (int what = 0; what < 6; what++) {
            x.sort(2, what, 5);
            Edges.due("what was of " + what, x.sort(2, what, most[what]), 5);
            Edges.due("one more of " + what, x.sort(2, what, most[what] + 1), BAD);
            Edges.due("refused, it is as it was", x.sort(2, what, 1), most[what]);
        }
        Edges.refused("NONE ahead of BAD what", NONE, Towns::rich, y -> y.sort(3, 6, 1));
        Edges.refused("NONE ahead of BAD v", NONE, Towns::rich, y -> y.sort(-1, 0, 61));
        Edges.due("of another sort it is as at first", x.sort(1, 0, 1), 15);
    }

    private static void car() {
        Edges.words("What 0 EVERY, 1 PACE of CARS becomes v: what was. BAD.");
        Edges.bounds(BAD, 0, 1, Towns::rich, (x, what) -> x.car(what, 1));
        BetweenStops x = new BetweenStops();
        Edges.due("what EVERY was", x.car(0, 61), 300);
        Edges.due("61 is no PACE", x.car(1, 61), BAD);
        Edges.due("what PACE was", x.car(1, 60), 3);
        Edges.due("EVERY then", x.count(6), 61);
        Edges.due("PACE then", x.count(7), 60);
        Edges.refused("BAD what ahead of BAD v is BAD", BAD, Towns::rich, y -> y.car(2, 0));
    }

    private static void walks() {
        Edges.words("How long a SORT WALKS from CELL to CELL. -5: no such CELL; -7: SORT.");
        Edges.refused("-5 ahead of -7", -5, Towns::rich, x -> x.walks(41, 0, 3));
        Edges.refused("-5 ahead of -7, of the second", -5, Towns::rich, x -> x.walks(0, -1, -1));
        Edges.refused("-7, even of no way", -7, Towns::rich, x -> x.walks(40, 40, 3));
        Edges.due("by each sort", new BetweenStops().walks(0, 40, 2), 240);
    }
}
