/** The edges of sheets, of refusals, and of promises 41 to 45. */
public final class EdgesHostTest {
    private static final int BAD = BetweenStops.BAD;

    private EdgesHostTest() {
    }

    public static void main(String[] args) {
        sheets();
        constants();
        refusals();
        hosts();
        asking();
        sheet();
        cell();
        wraps();
        copy();
        copyAsTheyWere();
        tripsBy();
        tripsFourByFour();
        taken();
        Due.end();
    }

    private static void sheets() {
        Edges.words("SHEETS 0 .. 3 are rows of numbers, or missing (as all are at first): of sort 0 bytes, 1 shorts, 2 ints, 41 at most.");
        Edges.bounds(BAD, 0, 3, Towns::rich, (x, s) -> x.sheet(s, 1, 2));
        Edges.bounds(BAD, 0, 3, Towns::rich, (x, s) -> x.cell(s, 0, 1));
        Edges.bounds(BAD, 0, 3, Towns::rich, (x, s) -> x.copy(s, 0, 0, 0, 0));
        Edges.bounds(BAD, 0, 3, Towns::rich, (x, s) -> x.copy(0, 0, s, 0, 0));
        Edges.bounds(BAD, 0, 3, Towns::rich, (x, s) -> x.tripsBy(s, 0, 0, 1));
        Edges.outside(BAD, 0, 3, Towns::rich, (x, s) -> x.judge(s));
        for (int s = 0; s < 4; s++) {
            BetweenStops x = new BetweenStops();
            Edges.due("missing at first", x.cell(s, 0, 0), -11);
            for (int sort = 0; sort < 3; sort++) {
                for (int size : new int[] {0, 1, 40, 41}) {
                    Edges.due("sort " + sort + " of " + size, x.sheet(s, sort, size), 1);
                    Edges.due("its last place", x.cell(s, size - 1, 1), size == 0 ? -12 : 1);
                    Edges.due("none behind it", x.cell(s, size, 1), -12);
                }
                for (int other = 0; other < 3; other++) {
                    Edges.due("sort " + sort + " as " + other, x.tripsBy(s, other, 0, 0), sort == other ? 0 : -13);
                }
            }
        }
    }

    private static void constants() {
        Edges.words("NONE there is no such thing; BAD a number is not as told; STATE as told; FULL.");
        Edges.due("NONE", BetweenStops.NONE, -1);
        Edges.due("BAD", BetweenStops.BAD, -2);
        Edges.due("STATE", BetweenStops.STATE, -3);
        Edges.due("FULL", BetweenStops.FULL, -4);
        Edges.due("NO", BetweenStops.NO, -4611686018427387904L);
    }

    private static void refusals() {
        Edges.words("REFUSALS, of several the first one told (a -1 that is an answer comes behind the refusal of a number):");
        Edges.refused("NONE, BAD", -1, Towns::empty, x -> x.road(41, 10));
        Edges.refused("-5, -7", -5, Towns::empty, x -> x.walks(41, 0, 3));
        Edges.refused("BAD, FULL", BAD, Towns::full, x -> x.stop(0, 0, 100, 0));
        Edges.refused("BAD, FULL of trips", BAD, Towns::full, x -> x.trip(0, 0, 100, 0));
        Edges.refused("BAD, FULL of bytes", BAD, Towns::full, x -> x.feed(0, 9));
        Edges.refused("FULL, a FAULT", -4, Towns::full, x -> x.text());
        Edges.refused("BAD, -11", BAD, Towns::empty, x -> x.cell(4, 0, 0));
        Edges.refused("-11, -12", -11, Towns::empty, x -> x.cell(3, 41, 0));
        Edges.refused("BAD, -11 of another one", BAD, Towns::empty, x -> x.copy(0, 0, 4, 0, 0));
        Edges.refused("-11, -13", -11, Towns::rich, x -> x.copy(3, 0, 0, 0, 0));
        Edges.refused("-13, -12", -13, Towns::rich, x -> x.copy(0, 99, 1, -1, -1));
        Edges.refused("BAD, -14", BAD, Towns::rich, x -> x.sheet(0, 3, -1));
        Edges.refused("BAD, -12", BAD, Towns::rich, x -> x.taken(16, 7));
        Edges.refused("-12, -11", -12, Towns::empty, x -> x.taken(16, 0));
        Edges.refused("-11, -13 of nothing", -11, Towns::empty, x -> x.taken(0, 0));
        Edges.refused("BAD, STATE", BAD, Towns::empty, x -> x.rest(3));
        Edges.refused("-7, STATE", -7, Towns::rich, x -> x.drawn(3, 100000));
        // A -1 that is an answer.
        Edges.refused("-7, no stop to get in at", -7, Towns::rich, x -> x.takes(3, 6));
        Edges.refused("BAD, no set", BAD, Towns::rich, x -> x.bound(-1));
        Edges.refused("BAD, no set of few", BAD, Towns::rich, x -> x.fewest(-1));
        Edges.refused("BAD, no loss", BAD, Towns::rich, x -> x.least(-1));
        Edges.refused("BAD, none walks far", BAD, Towns::empty, x -> x.judge(4));
        Edges.refused("NO, no trip", BetweenStops.NO, Towns::empty, x -> x.sum(3));
    }

    private static void hosts() {
        Edges.words("The host's: -11 nothing there, -12 a place outside, -13 of another sort or KIND, -14 a size below 0. They change nothing.");
        Edges.refused("-11 of cell", -11, Towns::rich, x -> x.cell(3, 0, 1));
        Edges.refused("-11 of copy", -11, Towns::rich, x -> x.copy(0, 0, 3, 0, 1));
        Edges.refused("-11 of tripsBy", -11, Towns::rich, x -> x.tripsBy(3, 2, 0, 1));
        Edges.refused("-11 of judge", -11, Towns::rich, x -> x.judge(3));
        Edges.refused("-11 of taken", -11, Towns::rich, x -> x.taken(5, 6));
        Edges.refused("-12 of cell", -12, Towns::rich, x -> x.cell(0, 8, 1));
        Edges.refused("-12 of copy", -12, Towns::rich, x -> x.copy(0, 1, 0, 0, 8));
        Edges.refused("-12 of tripsBy, ahead of all", -12, Towns::rich, x -> x.tripsBy(0, 0, 5, 1));
        Edges.refused("-12 of taken", -12, Towns::rich, x -> x.taken(16, 6));
        Edges.refused("-13 of copy", -13, Towns::rich, x -> x.copy(0, 0, 1, 0, 1));
        Edges.refused("-13 of tripsBy", -13, Towns::rich, x -> x.tripsBy(0, 1, 0, 1));
        Edges.refused("-13 of taken", -13, Towns::rich, x -> x.taken(0, 0));
        Edges.refused("-14", -14, Towns::rich, x -> x.sheet(0, 0, -1));
    }

    private static void asking() {
        Edges.words("What is asked changes nothing, but where it is told.");
        Edges.unchanged("nothing asked", Towns::rich, x -> 0);
        Edges.unchanged("walks", Towns::rich, x -> x.walks(0, 40, 1));
        Edges.unchanged("told", Towns::rich, x -> x.told(1, 2));
        Edges.unchanged("count", Towns::rich, x -> x.count(2));
        Edges.unchanged("takes", Towns::rich, x -> x.takes(0, 5));
        Edges.unchanged("sum", Towns::rich, x -> x.sum(0));
        Edges.unchanged("use", Towns::rich, x -> x.use(5));
        Edges.unchanged("bench", Towns::rich, x -> x.bench(4, 0));
        Edges.unchanged("order", Towns::rich, x -> x.order(3));
        Edges.unchanged("across", Towns::rich, x -> x.across(3));
        Edges.unchanged("homes", Towns::rich, x -> x.homes());
        Edges.unchanged("asks", Towns::rich, x -> x.asks(5));
        Edges.unchanged("taken", Towns::rich, x -> x.taken(8, 0));
        // One after the other, and then again: what was asked ahead of it does not matter.
        BetweenStops x = Towns.rich();
        long[] first = askAll(x);
        long[] again = askAll(x);
        for (int i = 0; i < first.length; i++) {
            Edges.due("asked again: " + i, again[i], first[i]);
        }
    }

    private static long[] askAll(BetweenStops x) {
        return new long[] {x.best(0), x.sum(0), x.patterns(1), x.takes(0, 0), x.fair(), x.use(5), x.across(3), x.told(3, 2), x.bench(0, 0),
            x.sum(2), x.order(8), x.give(), x.round(20), x.homes(), x.rest(0), x.count(6), x.bunch(11, 9), x.asks(5), x.crowd(12, 9),
            x.drawn(0, 9), x.judge(2), x.takes(0, 5), x.bound(99), x.least(9), x.fewest(9999), x.sum(1)};
    }

    private static void sheet() {
        Edges.words("A SHEET becomes a row of n of a sort, all 0, or missing (sort -1: n does not matter): 1. BAD: SHEET, sort, n above 41; "
            + "-14.");
        Edges.bounds(BAD, -1, 2, Towns::rich, (x, sort) -> x.sheet(3, sort, 1));
        for (int n : new int[] {42, Integer.MAX_VALUE}) {
            Edges.refused(n + " numbers", BAD, Towns::rich, x -> x.sheet(0, 0, n));
        }
        for (int n : new int[] {-1, Integer.MIN_VALUE}) {
            Edges.refused(n + " numbers", -14, Towns::rich, x -> x.sheet(0, 0, n));
        }
        Edges.due("0 numbers", Towns.rich().sheet(0, 0, 0), 1);
        Edges.due("41 numbers", Towns.rich().sheet(0, 0, 41), 1);
        Edges.refused("BAD SHEET ahead of -14", BAD, Towns::rich, x -> x.sheet(4, 0, -1));
        Edges.refused("BAD sort ahead of -14", BAD, Towns::rich, x -> x.sheet(0, -2, -1));
        for (int n : new int[] {Integer.MIN_VALUE, -1, 0, 41, 42, Integer.MAX_VALUE}) {
            BetweenStops x = Towns.rich();
            Edges.due("missing, of " + n, x.sheet(0, -1, n), 1);
            Edges.due("missing then", x.cell(0, 0, 0), -11);
            Edges.due("missing again, of " + n, x.sheet(0, -1, n), 1);
            Edges.due("BAD SHEET, missing", x.sheet(4, -1, n), BAD);
        }
        // All 0, also what was there, in the row that was or a longer one.
        BetweenStops x = new BetweenStops();
        Towns.write(x, 0, 2, 0, 0, 1, 0, 0, 0, 1, 0);
        Edges.due("two trips", x.tripsBy(0, 2, 0, 2), 2);
        x.sheet(0, 2, 8);
        Edges.due("no trips of 0 people", x.tripsBy(0, 2, 0, 2), 0);
        Towns.write(x, 0, 2, 0, 0, 1, 0, 0, 0, 1, 0);
        x.sheet(0, 2, 4);
        x.sheet(0, 2, 8);
        Edges.due("nor behind a shorter row", x.tripsBy(0, 2, 4, 1), 0);
        Towns.write(x, 0, 2, 0, 0, 1, 0);
        x.sheet(0, -1, 0);
        x.sheet(0, 2, 4);
        Edges.due("nor behind none", x.tripsBy(0, 2, 0, 1), 0);
    }

    private static void cell() {
        Edges.words("Number i of a SHEET becomes v (of bytes, shorts its lowest 8, 16 bits): 1. BAD: SHEET; -11; -12.");
        Edges.bounds(-12, 0, 7, Towns::rich, (x, i) -> x.cell(0, i, 1));
        Edges.bounds(-12, 0, 4, Towns::rich, (x, i) -> x.cell(1, i, 1));
        Edges.bounds(-12, 0, 40, Towns::full, (x, i) -> x.cell(2, i, 1));
        Edges.outside(-11, 0, -1, Towns::rich, (x, i) -> x.cell(3, i, 1));
        Edges.outside(BAD, 0, 3, Towns::rich, (x, s) -> x.cell(s, 99, 1));
        BetweenStops none = new BetweenStops();
        none.sheet(0, 0, 0);
        Edges.due("of no numbers", none.cell(0, 0, 0), -12);
        for (int v : new int[] {Integer.MIN_VALUE, -1, 0, Integer.MAX_VALUE}) {
            Edges.due("any number", Towns.rich().cell(0, 0, v), 1);
        }
    }

    /** What a cell becomes, as a trip of so many people, from a cell, by a sort, tells it. */
    private static void becomes(int sort, int v, int want) {
        BetweenStops x = new BetweenStops();
        Towns.write(x, 0, sort, 0, 0, v, 0);
        boolean isMany = want >= 1 && want <= 99;
        Edges.due(v + " of sort " + sort + " is as many as can be", x.tripsBy(0, sort, 0, 1), isMany ? 1 : 0);
        Edges.due(v + " of sort " + sort, x.taken(0, 6), isMany ? want : -11);
        BetweenStops y = new BetweenStops();
        Towns.write(y, 0, sort, v, 0, 1, 0);
        Edges.due(v + " of sort " + sort + " as a cell", y.tripsBy(0, sort, 0, 1), want >= 0 && want <= 40 ? 1 : 0);
    }

    private static void wraps() {
        Edges.words("(of bytes, shorts its lowest 8, 16 bits)");
        int[][] ofBytes = {{0, 0}, {1, 1}, {99, 99}, {127, 127}, {128, -128}, {255, -1}, {256, 0}, {257, 1}, {355, 99}, {-1, -1},
            {-128, -128}, {-129, 127}, {-256, 0}, {-255, 1}, {65537, 1}, {Integer.MAX_VALUE, -1}, {Integer.MIN_VALUE, 0},
            {Integer.MIN_VALUE + 9, 9}};
        for (int[] v : ofBytes) {
            becomes(0, v[0], v[1]);
        }
        int[][] ofShorts = {{0, 0}, {1, 1}, {99, 99}, {257, 257}, {32767, 32767}, {32768, -32768}, {65535, -1}, {65536, 0}, {65537, 1},
            {65635, 99}, {-1, -1}, {-32769, 32767}, {-65536, 0}, {-65535, 1}, {Integer.MAX_VALUE, -1}, {Integer.MIN_VALUE, 0},
            {Integer.MIN_VALUE + 9, 9}};
        for (int[] v : ofShorts) {
            becomes(1, v[0], v[1]);
        }
        for (int v : new int[] {0, 1, 99, 100, 256, 257, 65536, 65537, -1, Integer.MAX_VALUE, Integer.MIN_VALUE}) {
            becomes(2, v, v);
        }
    }

    private static void copy() {
        Edges.words("n numbers of a SHEET, from i on, come to another one's (or its own) place j (as they were): n. BAD: SHEETS; -11; -13: "
            + "unlike sorts; -12 (n below 0, too).");
        Edges.bounds(-12, 0, 8, Towns::rich, (x, n) -> x.copy(0, 0, 0, 0, n));
        Edges.bounds(-12, 0, 7, Towns::rich, (x, i) -> x.copy(0, i, 0, 0, 1));
        Edges.bounds(-12, 0, 7, Towns::rich, (x, j) -> x.copy(0, 0, 0, j, 1));
        Edges.bounds(-12, 0, 8, Towns::rich, (x, i) -> x.copy(0, i, 0, 0, 0));
        Edges.bounds(-12, 0, 8, Towns::rich, (x, j) -> x.copy(0, 0, 0, j, 0));
        Edges.refused("all that there are, and one more", -12, Towns::rich, x -> x.copy(1, 1, 1, 0, 5));
        Edges.refused("past the end of the other", -12, Towns::rich, x -> x.copy(1, 0, 1, 1, 5));
        // Two numbers whose sum turns below 0.
        Edges.refused("from 1, as many as an int can be", -12, Towns::rich, x -> x.copy(0, 1, 0, 0, Integer.MAX_VALUE));
        Edges.refused("to 1, as many as an int can be", -12, Towns::rich, x -> x.copy(0, 0, 0, 1, Integer.MAX_VALUE));
        Edges.refused("from as far as an int can be", -12, Towns::rich, x -> x.copy(0, Integer.MAX_VALUE, 0, 0, Integer.MAX_VALUE));
        Edges.refused("from 1, of the least", -12, Towns::rich, x -> x.copy(0, 1, 0, 0, Integer.MIN_VALUE));
        Edges.refused("from 9, -1 of them", -12, Towns::rich, x -> x.copy(0, 9, 0, 0, -1));
        Edges.refused("BAD of the first ahead of -11", BAD, Towns::rich, x -> x.copy(4, 0, 3, 0, 0));
        Edges.refused("BAD of the other ahead of -11", BAD, Towns::rich, x -> x.copy(3, 0, -1, 0, 0));
        Edges.refused("-11 of the first ahead of -12", -11, Towns::rich, x -> x.copy(3, -1, 0, 0, 0));
        Edges.refused("-11 of the other ahead of -12", -11, Towns::rich, x -> x.copy(0, -1, 3, 0, 0));
        Edges.refused("-11 of both", -11, Towns::empty, x -> x.copy(0, 0, 0, 0, 0));
        Edges.refused("-13 ahead of -12", -13, Towns::rich, x -> x.copy(1, 0, 2, 0, -1));
        Edges.refused("-13, though none is to come", -13, Towns::rich, x -> x.copy(0, 0, 1, 0, 0));
        Edges.unchanged("none", Towns::rich, x -> x.copy(0, 2, 0, 5, 0));
        Edges.unchanged("each to its own place", Towns::rich, x -> x.copy(0, 0, 0, 0, 8));
        Edges.due("all 41", Towns.full().copy(0, 0, 3, 0, 41), 41);
        Edges.due("42", Towns.full().copy(0, 0, 3, 0, 42), -12);
        Edges.due("to the last place", Towns.full().copy(0, 40, 3, 40, 1), 1);
        BetweenStops none = new BetweenStops();
        none.sheet(0, 1, 0);
        none.sheet(1, 1, 0);
        Edges.due("none of none", none.copy(0, 0, 1, 0, 0), 0);
        Edges.due("one of none", none.copy(0, 0, 1, 0, 1), -12);
    }

    private static void copyAsTheyWere() {
        Edges.words("come to another one's (or its own) place j (as they were)");
        for (int by = -3; by <= 3; by++) {
            BetweenStops x = new BetweenStops();
            Towns.write(x, 0, 2, 0, 0, 0, 5, 6, 71, 2, 0, 0, 0);
            Edges.due("by " + by, x.copy(0, 3, 0, 3 + by, 4), 4);
            Edges.due("a trip", x.tripsBy(0, 2, 3 + by, 1), 1);
            Edges.due("its people", x.taken(0, 6), 71);
            Edges.due("its way", x.takes(0, 3), 6);
        }
        // What is copied is the number that it was, of bytes below 0, too.
        BetweenStops x = new BetweenStops();
        Towns.write(x, 0, 0, -1, 40, 99, 2);
        Towns.write(x, 1, 0, 0, 0, 0, 0);
        x.copy(0, 0, 1, 0, 4);
        Edges.due("a cell of -1", x.tripsBy(1, 0, 0, 1), 0);
        x.cell(0, 0, 40);
        Edges.due("a row of its own", x.tripsBy(1, 0, 0, 1), 0);
        x.copy(0, 0, 1, 0, 1);
        Edges.due("then", x.tripsBy(1, 0, 0, 1), 1);
    }

    private static void tripsBy() {
        Edges.words("TRIPS by a SHEET of a sort: from a place on, four by four (as of trip()), n of them (0 .. 8): how many came (others are "
            + "left out). BAD: SHEET, sort, n; -11; -13; -12: what stood ahead came.");
        Edges.bounds(BAD, 0, 2, Towns::rich, (x, sort) -> x.tripsBy(0, sort, 0, 1));
        Edges.bounds(BAD, 0, 8, Towns::rich, (x, n) -> x.tripsBy(0, 0, 0, n));
        Edges.refused("BAD SHEET ahead of -11", BAD, Towns::empty, x -> x.tripsBy(4, 0, 0, 1));
        Edges.refused("BAD sort ahead of -11", BAD, Towns::empty, x -> x.tripsBy(0, 3, 0, 1));
        Edges.refused("BAD n ahead of -11", BAD, Towns::empty, x -> x.tripsBy(0, 0, 0, 9));
        Edges.refused("-11 ahead of -12", -11, Towns::rich, x -> x.tripsBy(3, 0, -1, 1));
        Edges.refused("-13 ahead of -12", -13, Towns::rich, x -> x.tripsBy(0, 2, -1, 1));
        Edges.refused("-13, though none is to come", -13, Towns::rich, x -> x.tripsBy(0, 2, 0, 0));
        Edges.unchanged("none", Towns::rich, x -> x.tripsBy(0, 0, 0, 0));
        for (int at : new int[] {Integer.MIN_VALUE, -4, -1, 5, 8, Integer.MAX_VALUE - 3, Integer.MAX_VALUE}) {
            Edges.refused("from " + at, -12, Towns::rich, x -> x.tripsBy(0, 0, at, 1));
            Edges.refused("eight from " + at, -12, Towns::rich, x -> x.tripsBy(0, 0, at, 8));
            Edges.due("none from " + at, Towns.rich().tripsBy(0, 0, at, 0), 0);
        }
        Edges.due("from the last place that will do", Towns.rich().tripsBy(0, 0, 4, 1), 1);
        BetweenStops x = Towns.rich();
        Edges.due("a third is outside", x.tripsBy(0, 0, 0, 3), -12);
        Edges.due("two came", x.count(1), 7);
        Edges.due("the first of them", x.taken(5, 6), 3);
        Edges.due("the other", x.taken(6, 6), 6);
        Edges.due("a third is outside again", x.tripsBy(0, 0, 0, 3), -12);
        Edges.due("one came, then they are FULL", x.count(1), 8);
        Edges.refused("outside, and all that is ahead is left out", -12, Towns::full, y -> y.tripsBy(0, 0, 36, 8));
    }

    private static void tripsFourByFour() {
        Edges.words("from a place on, four by four (as of trip()), n of them (0 .. 8): how many came (others are left out).");
        int[][] others = {{-1, 0, 1, 0}, {41, 0, 1, 0}, {0, -1, 1, 0}, {0, 41, 1, 0}, {0, 0, 0, 0}, {0, 0, 100, 0}, {0, 0, 1, -1}, {0, 0, 1, 3}};
        for (int sort = 0; sort < 3; sort++) {
            for (int[] other : others) {
                BetweenStops x = new BetweenStops();
                Towns.write(x, 0, sort, 40, 0, 99, 2, other[0], other[1], other[2], other[3], 0, 40, 1, 0);
                Edges.due("two of three", x.tripsBy(0, sort, 0, 3), 2);
                Edges.due("trips", x.count(1), 2);
                Edges.due("the first", x.taken(0, 6), 99);
                Edges.due("its way", x.takes(0, 3), 240);
                Edges.due("the other", x.taken(1, 6), 1);
                Edges.due("its way", x.takes(1, 3), 400);
            }
            BetweenStops full = new BetweenStops();
            full.sheet(0, sort, 41);
            for (int i = 0; i < 10; i++) {
                full.cell(0, 4 * i + 2, 1 + i);
            }
            Edges.due("eight", full.tripsBy(0, sort, 4, 8), 8);
            Edges.due("the first of eight", full.taken(0, 6), 2);
            Edges.due("the last of eight", full.taken(7, 6), 9);
            Edges.due("eight more, for which there is no room", full.tripsBy(0, sort, 0, 8), 0);
            Edges.due("eight they are", full.count(1), 8);
            // From 9 on, eight of them end at 40, which is the last place.
            Edges.due("to the last place", full.tripsBy(0, sort, 9, 8), 0);
            Edges.due("one place further", full.tripsBy(0, sort, 10, 8), -12);
        }
    }

    private static void taken() {
        Edges.words("What lies at place i: 0 .. 7 TRIPS, 8 .. 15 STOPS, taken for 0 .. 5 a STOP of that KIND (also of one that is one): its "
            + "number; 6 a TRIP: how MANY. BAD: kind; -12: i; -11: nothing lies there; -13.");
        Edges.bounds(BAD, 0, 6, Towns::rich, (x, kind) -> x.taken(0, kind));
        Edges.bounds(-12, 0, 15, Towns::full, (x, i) -> x.taken(i, 0));
        Edges.bounds(-12, 0, 15, Towns::full, (x, i) -> x.taken(i, 6));
        Edges.refused("BAD ahead of -12", BAD, Towns::rich, x -> x.taken(16, 7));
        Edges.refused("BAD ahead of -11", BAD, Towns::empty, x -> x.taken(0, -1));
        Edges.refused("-12 ahead of -11", -12, Towns::empty, x -> x.taken(-1, 6));
        for (int i = 0; i < 16; i++) {
            for (int kind = 0; kind <= 6; kind++) {
                Edges.due("nothing at " + i, Towns.empty().taken(i, kind), -11);
            }
            BetweenStops x = Towns.full();
            Edges.due("for a TRIP at " + i, x.taken(i, 6), i < 8 ? i + 1 : -13);
            Edges.due("for a STOP at " + i, x.taken(i, 0), i < 8 ? -13 : i - 8);
            Edges.due("for a SHARED one at " + i, x.taken(i, 3), -13);
        }
        // Which kinds each is one of: itself, that above, and 0.
        String[] is = {"0", "01", "02", "03", "024", "015"};
        BetweenStops x = Towns.rich();
        for (int p = 0; p < 6; p++) {
            for (int kind = 0; kind < 6; kind++) {
                Edges.due("kind " + p + " for " + kind, x.taken(8 + p, kind), is[p].indexOf('0' + kind) >= 0 ? p : -13);
            }
        }
        Edges.due("the last trip", x.taken(4, 6), 3);
        Edges.due("behind it", x.taken(5, 6), -11);
        Edges.due("behind the last stop", x.taken(14, 6), -11);
        x.back();
        Edges.due("a trip that is gone", x.taken(4, 6), -11);
    }
}
