/** The edges of bunching, of drawn days, of the image, and of promises 36 to 40. */
public final class EdgesCarsTest {
    private static final int BAD = BetweenStops.BAD, STATE = BetweenStops.STATE;

    private EdgesCarsTest() {
    }

    public static void main(String[] args) {
        leaving();
        inOrder();
        noSooner();
        waits();
        manies();
        itsNumber();
        paceAndEnd();
        bunch();
        crowd();
        seeds();
        car();
        lots();
        drawn();
        imageKeeps();
        image();
        back();
        Due.end();
    }

    private static BetweenStops cars(int every, String late) {
        BetweenStops x = new BetweenStops();
        x.car(0, every);
        x.car(1, 1);
        x.force(Due.textOf(x, "stay 0;late " + late + ";ask 0;"));
        Edges.due("the law", x.count(4), 1);
        return x;
    }

    private static void ends(BetweenStops x, int late, int... want) {
        for (int k = 0; k < want.length; k++) {
            Edges.due("car " + k + " ends", x.bunch(k, late), want[k]);
        }
    }

    private static void leaving() {
        Edges.words("BUNCHING: cars 0, 1, .. one behind the other leave CELL 0 EVERY seconds apart, the first one late by so many seconds;");
        ends(cars(20, "0"), 0, 40, 60, 80, 100, 120, 140, 160, 180, 200, 220, 240, 260);
        ends(cars(20, "0"), 1, 41, 60, 80);
        ends(cars(20, "0"), 3600, 3640, 60, 80);
        ends(cars(3600, "0"), 0, 40, 3640, 7240);
        ends(cars(1, "0"), 0, 40, 41, 42);
    }

    private static void inOrder() {
        Edges.words("each by CELLS, STOPS of one CELL by numbers, at each where it STOPS (by its number modulo 2):");
        // The order is seen by the wait at one of two stops of a cell, which is longer behind the other one.
        BetweenStops x = cars(20, "wait * (sort = 2)");
        x.stop(0, 40, 7, 0);
        x.stop(0, 0, 5, 0);
        x.stop(0, 20, 0, 0);
        x.stop(0, 20, 3, 0);
        // At 20: 5 + 20, since -20 it is 45. The fourth stands behind it, so that it adds nothing to that wait.
        ends(x, 0, 5 + 20 + 45 + 3 + 20 + 7);
        BetweenStops other = cars(20, "wait * (sort = 3)");
        other.stop(0, 40, 7, 0);
        other.stop(0, 0, 5, 0);
        other.stop(0, 20, 2, 0);
        other.stop(0, 20, 3, 0);
        ends(other, 0, 5 + 20 + 2 + 47 + 3 + 20 + 7);
        BetweenStops turns = cars(1000, "0");
        turns.stop(2, 20, 1, 0);
        turns.stop(4, 20, 20, 0);
        turns.turns(turns.stop(0, 20, 99, 0), 2);
        ends(turns, 0, 41, 1040 + 10 + 99, 2041, 3040 + 109);
        turns.open(2, 0);
        ends(turns, 0, 41, 1050, 2041, 3050);
    }

    private static void noSooner() {
        Edges.words("it is there no sooner than the car ahead that stopped there left it; it leaves it SECONDS, and what late says, later");
        BetweenStops x = cars(20, "0");
        x.stop(0, 20, 20, 0);
        // Off at 40, when the next one comes.
        ends(x, 0, 60, 80, 100);
        x.stop(0, 20, 1, 0);
        ends(x, 0, 61, 81, 101);
        BetweenStops held = cars(20, "0");
        held.stop(0, 20, 21, 0);
        ends(held, 0, 61, 82, 103);
        held.turns(0, 1);
        // Car 1 passes; car 2 waits for none, as car 0 is off long since.
        ends(held, 0, 61, 60, 101, 100);
        ends(held, 3600, 3661, 60, 3682, 100, 3703);
        BetweenStops late = cars(20, "1");
        late.stop(0, 20, 20, 0);
        ends(late, 0, 61, 82, 103);
        BetweenStops ahead = cars(20, "0");
        ahead.stop(0, 20, 5, 0);
        // An hour late, the first one holds all up.
        ends(ahead, 3600, 3645, 3650, 3655, 3660);
    }

    private static void waits() {
        Edges.words("(late: wait: how many seconds since the one ahead left it, or since EVERY seconds ahead of 0;");
        BetweenStops x = cars(20, "wait");
        x.stop(0, 0, 0, 0);
        // The first: 20. The next comes at 20, when it is off.
        ends(x, 0, 60, 60, 80 + 20);
        BetweenStops at = cars(1, "wait");
        at.stop(0, 0, 0, 0);
        ends(at, 0, 41, 41, 42 + 1);
        BetweenStops most = cars(3600, "wait");
        most.stop(0, 40, 0, 0);
        ends(most, 3600, 3640 + 999);
        BetweenStops some = cars(900, "wait");
        some.stop(0, 40, 0, 0);
        ends(some, 58, 98 + 998);
        ends(some, 59, 99 + 999);
        ends(some, 60, 100 + 999);
        // Since car 0 left it, not since car 1, which passes.
        BetweenStops passed = cars(100, "wait");
        passed.stop(2, 0, 7, 0);
        ends(passed, 0, 107 + 40, 140, 200 + 93 + 7 + 40, 340);
        // None ahead has stopped there, whatever its number: since EVERY seconds ahead of 0.
        BetweenStops second = cars(100, "wait");
        second.stop(2, 0, 7, 1);
        ends(second, 0, 40, 100 + 200 + 7 + 40);
    }

    private static void manies() {
        Edges.words("many: how many get in or out there now, times these by EVERY (cut);");
        int[][] due = {{1, 1}, {2, 2}, {99, 99}};
        for (int[] d : due) {
            BetweenStops x = cars(2, "many");
            x.stop(0, 0, 0, 0);
            x.stop(0, 40, 0, 0);
            x.turns(1, 1);
            x.turns(0, 1);
            x.trip(0, 40, d[0], 0);
            x.sort(0, 3, 0);
            // Two seconds by two are one; then 40 and what the first stop took and two, by two.
            int first = d[1];
            int then = d[0] * (first + 42) / 2;
            ends(x, 0, first + 40 + Math.min(999, then));
        }
        BetweenStops cut = cars(10, "many");
        cut.stop(0, 0, 0, 0);
        cut.stop(0, 40, 0, 0);
        cut.trip(0, 40, 1, 0);
        // 10 by 10; 51 by 10 is 5.1.
        ends(cut, 0, 1 + 40 + 5);
        // 19 by 10 is 1.9, 59 + 1 by 10 is 6: these times many first, then cut.
        ends(cut, 9, 9 + 1 + 40 + 6);
        cut.trip(0, 40, 2, 0);
        ends(cut, 9, 9 + 5 + 40 + 3 * (10 + 9 + 5 + 40) / 10);
        cut.open(1, 0);
        ends(cut, 9, 49);
        BetweenStops all = cars(3600, "(many = 8 * 99 * 2) * 100 + (many = 8 * 99) * 10");
        all.sort(0, 3, 0);
        all.stop(0, 0, 0, 0);
        all.stop(0, 40, 0, 0);
        for (int i = 0; i < 8; i++) {
            all.trip(0, 40, 99, 0);
        }
        ends(all, 0, 10 + 40);
        ends(all, 3600, 3600 + 100 + 40);
    }

    private static void itsNumber() {
        Edges.words("sort: its number; the others 0).");
        BetweenStops x = cars(1000, "sort * 100");
        for (int p = 0; p < 8; p++) {
            x.stop(0, 5 * p, 0, 0);
            x.open(p, 0);
        }
        for (int p = 0; p < 8; p++) {
            x.open(p, 1);
            Edges.due("stop " + p + ", car 0", x.bunch(0, 0), 40 + 100 * p);
            Edges.due("stop " + p + ", car 1", x.bunch(1, 0), 1040 + 100 * p);
            x.open(p, 0);
        }
        BetweenStops others = cars(20, "cost + walk + ride");
        others.stop(0, 0, 0, 0);
        others.stop(0, 30, 0, 0);
        others.trip(0, 40, 9, 0);
        ends(others, 0, 40);
    }

    private static void paceAndEnd() {
        Edges.words("PACE for each CELL. It ends at CELL 40.");
        BetweenStops x = cars(20, "0");
        x.car(1, 60);
        ends(x, 0, 2400, 2420);
        x.stop(0, 40, 99, 0);
        x.stop(0, 0, 1, 0);
        ends(x, 0, 2500, 2599);
        x.car(1, 1);
        ends(x, 7, 147, 246);
    }

    private static void bunch() {
        Edges.words("BUNCHING: when car k (0 .. 11) ends, the first one being late by so many seconds (0 .. 3600). BAD.");
        Edges.bounds(BAD, 0, 11, Towns::rich, (x, k) -> x.bunch(k, 7));
        Edges.bounds(BAD, 0, 3600, Towns::rich, (x, late) -> x.bunch(7, late));
        Edges.outside(BAD, 0, 11, Towns::empty, (x, k) -> x.bunch(k, 0));
        Edges.refused("both", BAD, Towns::rich, x -> x.bunch(12, 3601));
        Edges.unchanged("bunch", Towns::rich, x -> x.bunch(11, 3600));
        BetweenStops x = new BetweenStops();
        Edges.due("no stops, the first", x.bunch(0, 3600), 3720);
        Edges.due("no stops, the last", x.bunch(11, 3600), 3300 + 120);
        // As long as can be: every one is held up as long as can be wherever it stops.
        BetweenStops full = cars(3600, "9999");
        full.car(1, 60);
        for (int p = 0; p < 8; p++) {
            full.stop(3, 5 * p, 99, 60);
        }
        Edges.due("the longest", full.bunch(0, 3600), 3600 + 2400 + 8 * 1158);
        // One leaves the first stop at 3600 + 1158, the next ones as they come, from 2 on: each is behind by 3600.
        Edges.due("the last", full.bunch(11, 3600), 11 * 3600 + 2400 + 8 * 1158);
    }

    private static void crowd() {
        Edges.words("The least time between the ends of two of so many cars (2 .. 12), one behind the other (the later one's less the "
            + "other's). BAD.");
        Edges.bounds(BAD, 2, 12, Towns::rich, (x, cars) -> x.crowd(cars, 7));
        Edges.bounds(BAD, 0, 3600, Towns::rich, (x, late) -> x.crowd(7, late));
        Edges.outside(BAD, 2, 12, Towns::empty, (x, cars) -> x.crowd(cars, 0));
        Edges.refused("both", BAD, Towns::rich, x -> x.crowd(1, -1));
        Edges.unchanged("crowd", Towns::rich, x -> x.crowd(12, 3600));
        BetweenStops x = cars(20, "0");
        Edges.due("of two", x.crowd(2, 0), 20);
        Edges.due("of twelve", x.crowd(12, 0), 20);
        Edges.due("of two, late", x.crowd(2, 19), 1);
        Edges.due("of two, at once", x.crowd(2, 20), 0);
        Edges.due("overtaken", x.crowd(2, 21), -1);
        Edges.due("overtaken, of twelve", x.crowd(12, 3600), -3580);
        // Ends 40, 120, 80, 180, 120, 240, ..: car 1 stands, and each of its kind longer than the one ahead.
        BetweenStops third = cars(20, "0");
        third.stop(2, 20, 60, 1);
        Edges.due("car 1 stands", third.crowd(2, 0), 80);
        Edges.due("car 2 passes it", third.crowd(3, 0), -40);
        Edges.due("car 4 passes car 3", third.crowd(5, 0), -60);
        Edges.due("car 10 passes car 9", third.crowd(11, 0), -120);
        Edges.due("car 11 stands", third.crowd(12, 0), -120);
        BetweenStops last = cars(10, "(sort = 0) * wait * 9");
        last.stop(0, 20, 0, 0);
        int least = last.bunch(1, 0) - last.bunch(0, 0);
        for (int k = 2; k < 12; k++) {
            least = Math.min(least, last.bunch(k, 0) - last.bunch(k - 1, 0));
            Edges.due("of " + (k + 1), last.crowd(k + 1, 0), least);
        }
    }

    /** Six stops in between, each of which costs a bit of its own, if it is wanted. */
    private static BetweenStops day(int wanted) {
        BetweenStops x = new BetweenStops();
        x.car(0, 1);
        x.stop(0, 0, 0, 0);
        x.stop(0, 40, 0, 0);
        for (int p = 0; p < 6; p++) {
            x.stop(1, 10 + p, 1 << p, 0);
            x.want(2 + p, wanted);
        }
        x.trip(0, 40, 1, 0);
        return x;
    }

    /** Behind the first lot, those of the stops in between that are less than WANTED, as bits. */
    private static int bits(int seed, int wanted) {
        long lot = (seed + 1) * 48271L % 2147483647;
        int bits = 0;
        for (int p = 0; p < 8; p++) {
            lot = lot * 48271 % 2147483647;
            bits |= p >= 2 && lot % 10 < wanted ? 1 << p - 2 : 0;
        }
        return bits;
    }

    private static void seeds() {
        Edges.words("DRAWN by a SEED (0 .. 99999): LOTS: the first is (SEED and 1) times 48271 modulo 2147483647, each further one the last "
            + "times 48271 modulo 2147483647.");
        Edges.bounds(-7, 0, 99999, () -> day(5), (x, seed) -> x.drawn(0, seed));
        for (int seed : new int[] {0, 1, 2, 44488, 44489, 50000, 99998, 99999}) {
            for (int wanted = 0; wanted <= 10; wanted++) {
                Edges.due("seed " + seed + ", wanted by " + wanted, day(wanted).drawn(0, seed), 120 + bits(seed, wanted));
            }
        }
        // By hand: of seed 0 the first lot is 48271, the next 182605794, 1291394886, 1914720637, 2078669041, 407355683,
        // 1105902161, 854716505 and 564586691, of which the last six are those of the stops in between.
        Edges.due("seed 0, below 1", day(1).drawn(0, 0), 120 + LOTS_OF_SEED_0[1]);
        Edges.due("seed 0, below 5", day(5).drawn(0, 0), 120 + LOTS_OF_SEED_0[5]);
        Edges.due("seed 0, below 8", day(8).drawn(0, 0), 120 + LOTS_OF_SEED_0[8]);
    }

    private static final int[] LOTS_OF_SEED_0 = lotsOfSeed0();

    /** Modulo 10 they are 7 1 3 1 5 1: which are below each number. */
    private static int[] lotsOfSeed0() {
        int[] last = {7, 1, 3, 1, 5, 1};
        int[] below = new int[11];
        for (int wanted = 0; wanted <= 10; wanted++) {
            for (int p = 0; p < 6; p++) {
                below[wanted] |= last[p] < wanted ? 1 << p : 0;
            }
        }
        return below;
    }

    private static void car() {
        Edges.words("The first, modulo 2, is the car, if both go;");
        BetweenStops x = Towns.ends(1);
        x.stop(2, 20, 30, 0);
        x.trip(0, 40, 1, 0);
        // 48271 is odd: car 1. 2 * 48271 is even: car 0.
        Edges.due("seed 0", x.drawn(0, 0), 120);
        Edges.due("seed 1", x.drawn(0, 1), 150);
        // 532084435 is odd, 532132706 is even; both times the product is past all ints.
        Edges.due("seed 99998", x.drawn(0, 99998), 120);
        Edges.due("seed 99999", x.drawn(0, 99999), 150);
        x.turns(0, 1);
        Edges.due("car 0 alone, seed 0", x.drawn(0, 0), 150);
        Edges.due("car 0 alone, seed 1", x.drawn(0, 1), 150);
        x.turns(0, 2);
        Edges.due("car 1 alone, seed 0", x.drawn(0, 0), 120);
        Edges.due("car 1 alone, seed 1", x.drawn(0, 1), 120);
    }

    private static void lots() {
        Edges.words("then for each STOP one: an ASKED one is wanted, if LOT modulo 10 is less than WANTED; then it costs its SECONDS as if "
            + "WANTED were 10, else none.");
        for (int wanted = 0; wanted <= 10; wanted++) {
            // The lot of the third stop of seed 0 is 7 modulo 10.
            BetweenStops x = Towns.ends(1);
            x.stop(5, 20, 99, 60);
            x.want(2, wanted);
            x.trip(0, 40, 1, 0);
            x.sort(0, 0, 60);
            Edges.due("TOLD, wanted by " + wanted, x.drawn(0, 0), 120 + (7 < wanted ? 159 : 0));
            BetweenStops y = Towns.ends(1);
            y.stop(1, 20, 99, 60);
            y.want(2, wanted);
            y.trip(0, 40, 1, 0);
            Edges.due("ASKED, wanted by " + wanted, y.drawn(0, 0), 120 + (7 < wanted ? 99 : 0));
            BetweenStops z = Towns.ends(1);
            z.stop(3, 20, 9, 60);
            z.stop(4, 21, 9, 0);
            z.stop(0, 22, 9, 0);
            for (int p = 2; p < 5; p++) {
                z.want(p, wanted);
            }
            z.trip(0, 40, 1, 0);
            Edges.due("not asked, whatever is drawn", z.drawn(0, 0), 120 + 69 + 4 + 9);
        }
        // A stop that isn't open, or aside, has its lot all the same: those of seed 0 are 4 6 7 1.
        BetweenStops closed = Towns.ends(1);
        closed.stop(1, 20, 1, 0);
        closed.stop(1, 20, 2, 0);
        closed.open(2, 0);
        closed.trip(0, 40, 1, 0);
        Edges.due("1 is below 5", closed.drawn(0, 0), 122);
        closed.want(3, 1);
        Edges.due("1 is not below 1", closed.drawn(0, 0), 120);
        closed.want(3, 2);
        Edges.due("1 is below 2", closed.drawn(0, 0), 122);
    }

    private static void drawn() {
        Edges.words("DRAWN: how many seconds a TRIP rides by its best way. -5: no such TRIP; -7: SEED; STATE: it doesn't ride.");
        Edges.bounds(-5, 0, 4, Towns::rich, (x, i) -> x.drawn(i, 7));
        Edges.outside(-7, 0, 99999, Towns::rich, (x, seed) -> x.drawn(0, seed));
        Edges.refused("no trips", -5, Towns::empty, x -> x.drawn(0, 0));
        Edges.refused("-5 ahead of -7", -5, Towns::rich, x -> x.drawn(5, 100000));
        Edges.refused("-7 ahead of STATE", -7, Towns::rich, x -> x.drawn(3, -1));
        Edges.refused("STATE", STATE, Towns::rich, x -> x.drawn(3, 0));
        Edges.unchanged("drawn", Towns::rich, x -> x.drawn(0, 0));
        // By the way that is best as it is, even if what is drawn holds it up.
        BetweenStops x = Towns.ends(1);
        x.stop(1, 20, 99, 0);
        x.want(2, 8);
        x.trip(0, 40, 1, 0);
        Edges.due("79 seconds, as it is", x.takes(0, 5), 199);
        Edges.due("99 as drawn", x.drawn(0, 0), 219);
        BetweenStops next = new BetweenStops();
        next.car(0, 1);
        next.stop(0, 20, 50, 0);
        next.stop(0, 21, 50, 0);
        next.sort(0, 0, 60);
        next.trip(20, 21, 1, 0);
        Edges.due("from one cell to the next", next.drawn(0, 0), 3);
    }

    private static void imageKeeps() {
        Edges.words("AN IMAGE keeps HEIGHTS, SORTS, EVERY, PACE, which STOPS are OPEN, WANTED, PATTERNS, how many TRIPS, THE LAW (STOPS that "
            + "came since stay as they are).");
        // All that is kept is changed and put back: nothing is left of it.
        BetweenStops x = Towns.rich();
        x.image();
        for (int c = 0; c <= 40; c++) {
            x.road(c, 9 - c % 10);
        }
        for (int i = 0; i < 18; i++) {
            x.sort(i / 6, i % 6, 9);
        }
        x.car(0, 3600);
        x.car(1, 60);
        for (int p = 0; p < 6; p++) {
            x.open(p, 1 - x.told(p, 3));
            x.want(p, 10 - x.told(p, 4));
            x.turns(p, 2);
        }
        x.trip(1, 2, 3, 0);
        x.trip(2, 3, 4, 0);
        x.force(0);
        x.back();
        BetweenStops y = Towns.rich();
        y.image();
        Edges.due("all as it was", Reading.of(x).equals(Reading.of(y)) ? 1 : 0, 1);
        BetweenStops since = Towns.rich();
        since.image();
        since.stop(0, 9, 9, 9);
        since.want(6, 1);
        since.turns(6, 2);
        since.open(6, 0);
        Edges.due("how many stops there are", since.back(), 7);
        Edges.due("came since: OPEN", since.told(6, 3), 0);
        Edges.due("came since: WANTED", since.told(6, 4), 1);
        Edges.due("came since: PATTERN", since.told(6, 5), 2);
    }

    private static void image() {
        Edges.words("AN IMAGE is kept: how many STOPS.");
        Edges.due("of none", Towns.empty().image(), 0);
        Edges.due("of some", Towns.rich().image(), 6);
        Edges.due("of eight", Towns.full().image(), 8);
        BetweenStops x = new BetweenStops();
        x.road(7, 1);
        x.image();
        x.road(7, 2);
        x.image();
        x.road(7, 3);
        x.back();
        Edges.due("the last image", x.road(7, 4), 2);
        x.back();
        Edges.due("it is still kept", x.road(7, 5), 2);
    }

    private static void back() {
        Edges.words("All that it keeps is as in THE IMAGE: how many STOPS there are. STATE: there is none.");
        Edges.refused("a new object", STATE, Towns::empty, x -> x.back());
        Edges.refused("no image", STATE, EdgesCarsTest::withoutImage, x -> x.back());
        BetweenStops none = new BetweenStops();
        none.image();
        for (int p = 0; p < 8; p++) {
            none.stop(0, p, 0, 0);
            none.trip(p, p, 1, 0);
        }
        Edges.due("eight stops, none of which it keeps", none.back(), 8);
        Edges.due("no trips", none.count(1), 0);
        Edges.due("there is room for all again", none.trip(0, 40, 99, 0), 0);
        Edges.due("all open", none.count(2), 8);
        BetweenStops full = Towns.full();
        for (int p = 0; p < 8; p++) {
            full.open(p, 0);
        }
        Edges.due("eight", full.back(), 8);
        Edges.due("open again", full.count(2), 8);
        Edges.due("trips", full.count(1), 8);
        // What it does not keep.
        full.feed(' ', 1);
        full.sheet(0, -1, 0);
        Edges.due("eight again", full.back(), 8);
        Edges.due("texts", full.count(3), 6);
        Edges.due("the tape", full.count(5), 160);
        Edges.due("a sheet that is missing since", full.cell(0, 0, 0), -11);
    }

    private static BetweenStops withoutImage() {
        BetweenStops x = new BetweenStops();
        x.road(3, 4);
        x.stop(1, 2, 3, 4);
        x.trip(1, 2, 3, 1);
        return x;
    }
}
