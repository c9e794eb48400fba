/** The edges of the terms of sets, and of promises 19 to 25. */
public final class EdgesSetsTest {
    private static final int BAD = BetweenStops.BAD;
    private static final long NO = BetweenStops.NO;

    private EdgesSetsTest() {
    }

    public static void main(String[] args) {
        asIfJustThese();
        likeOnes();
        best();
        bound();
        least();
        fair();
        fewest();
        judge();
        judgedNumbers();
        patterns();
        patternsOfMore();
        Due.end();
    }

    /** Four trips, each of which costs 4 + 27 by two stops of its own. */
    private static BetweenStops eight() {
        BetweenStops x = new BetweenStops();
        x.car(0, 4);
        for (int t = 0; t < 4; t++) {
            x.stop(0, 10 * t, 0, 0);
            x.stop(0, 10 * t + 9, 0, 0);
            x.trip(10 * t, 10 * t + 9, 1, 0);
        }
        return x;
    }

    private static void asIfJustThese() {
        Edges.words("SETS of OPEN STOPS are looked at as if just these were OPEN.");
        BetweenStops x = Towns.ends(1);
        x.trip(0, 40, 1, 0);
        x.open(0, 0);
        x.open(1, 0);
        Edges.due("none is open, but can be", x.best(0), 3);
        Edges.due("its total", x.best(1), 120);
        Edges.due("with a bound", x.bound(0), 3);
        Edges.due("with no loss", x.least(0), 3);
        Edges.due("fair", x.fair(), 3);
        Edges.due("fewest", x.fewest(120), 3);
        Edges.due("total now", x.sum(0), 800);
        Edges.due("open ones now", x.count(2), 0);
        for (int stops = 0; stops <= 8; stops++) {
            BetweenStops y = new BetweenStops();
            for (int p = 0; p < stops; p++) {
                y.stop(0, 20, 0, 0);
            }
            y.stop(0, 0, 0, 0);
            y.stop(0, 40, 0, 0);
            y.trip(0, 40, 1, 0);
            // There are eight stops at most: with seven in cell 20 just one more comes, from which one rides there.
            Edges.due("behind " + stops, y.fair(), stops <= 6 ? 3 << stops : stops == 7 ? 129 : 0);
        }
        Edges.due("all eight", eight().best(0), 255);
        Edges.unchanged("best", Towns::rich, y -> y.best(0));
        Edges.unchanged("bound", Towns::rich, y -> y.bound(9));
        Edges.unchanged("least", Towns::rich, y -> y.least(9));
        Edges.unchanged("fair", Towns::rich, y -> y.fair());
        Edges.unchanged("fewest", Towns::rich, y -> y.fewest(9999));
        Edges.unchanged("judge", Towns::rich, y -> y.judge(2));
        Edges.unchanged("patterns", Towns::rich, y -> y.patterns(0));
    }

    /** {0, 3} and {0, 1, 2} and {0, 1, 3} come to 128, no set to less: 24 + 104, 54 + 74, 24 + 104. */
    private static BetweenStops twoOrThree() {
        BetweenStops x = new BetweenStops();
        x.sort(0, 0, 2);
        x.car(0, 2);
        x.car(1, 1);
        x.stop(2, 10, 30, 0);
        x.stop(0, 20, 0, 0);
        x.stop(0, 40, 20, 0);
        x.stop(0, 30, 30, 0);
        x.trip(30, 10, 1, 0);
        x.trip(0, 40, 1, 0);
        return x;
    }

    private static BetweenStops pairs() {
        BetweenStops x = new BetweenStops();
        x.car(0, 1);
        x.stop(0, 40, 0, 0);
        x.stop(0, 0, 0, 0);
        x.stop(0, 0, 0, 0);
        x.stop(0, 40, 0, 0);
        x.trip(0, 40, 1, 0);
        return x;
    }

    private static void likeOnes() {
        Edges.words("BEST: the least TOTAL; of like ones the fewest STOPS, then the least as bits.");
        BetweenStops x = twoOrThree();
        Edges.due("two stops ahead of three, which are less as bits", x.best(0), 9);
        Edges.due("their total", x.best(1), 128);
        Edges.due("two ahead of three, with a bound", x.bound(99999), 9);
        Edges.due("two ahead of three, with a loss", x.least(999999), 9);
        Edges.due("the second walks 40 with two", x.bound(40), 9);
        Edges.due("and 20 with three", x.bound(39), 7);
        Edges.due("3 of 3, 5, 10, 12", pairs().best(0), 3);
        Edges.due("with a bound", pairs().bound(0), 3);
        Edges.due("with no loss", pairs().least(0), 3);
        Edges.due("the least total comes first, of all eight", eight().best(0), 255);
        BetweenStops nobody = Towns.full();
        Edges.due("some of eight", nobody.best(1) <= nobody.sum(0) ? 1 : 0, 1);
        BetweenStops none = new BetweenStops();
        for (int p = 0; p < 8; p++) {
            none.stop(0, p, 0, 0);
        }
        Edges.due("nobody goes: none", none.best(0), 0);
        none.trip(7, 7, 1, 0);
        Edges.due("nobody rides: none", none.best(0), 0);
    }

    private static void best() {
        Edges.words("BEST: the SET (what 0, bits), the TOTAL (1). NO: what.");
        Edges.bounds(NO, 0, 1, Towns::rich, (x, what) -> x.best(what));
        Edges.outside(NO, 0, 1, Towns::empty, (x, what) -> x.best(what));
        Edges.due("the set of no stops", Towns.empty().best(0), 0);
        Edges.due("the total of no trips", Towns.empty().best(1), 0);
        BetweenStops x = new BetweenStops();
        x.trip(0, 40, 99, 0);
        Edges.due("the set of no stops", x.best(0), 0);
        Edges.due("all walk", x.best(1), 79200);
        x.stop(0, 0, 0, 0);
        Edges.due("one stop is none", x.best(0), 0);
    }

    private static void bound() {
        Edges.words("BEST of those with which no TRIP's best way has more than so many seconds of WALKING (0 .. 99999); -1: none. BAD.");
        Edges.bounds(BAD, 0, 99999, Towns::rich, (x, secs) -> x.bound(secs));
        Edges.outside(BAD, 0, 99999, Towns::empty, (x, secs) -> x.bound(secs));
        Edges.due("nobody walks", Towns.empty().bound(0), 0);
        BetweenStops x = new BetweenStops();
        x.trip(0, 1, 1, 0);
        Edges.due("ten seconds are no more than 10", x.bound(10), 0);
        Edges.due("ten seconds are more than 9", x.bound(9), -1);
        Edges.refused("BAD ahead of a -1", BAD, Towns::rich, y -> y.bound(-1));
        x.trip(0, 2, 1, 0);
        Edges.due("twenty of the second", x.bound(20), 0);
        Edges.due("19 of the second", x.bound(19), -1);
        // To ride costs more by far, but who rides does not walk; just the best way counts.
        BetweenStops dear = Towns.ends(3600);
        dear.trip(0, 40, 1, 0);
        Edges.due("who walks 400, though he could ride", dear.bound(399), -1);
        Edges.due("who walks 400", dear.bound(400), 0);
        BetweenStops far = new BetweenStops();
        for (int c = 1; c <= 40; c += 2) {
            far.road(c, 9);
        }
        far.sort(0, 0, 60);
        far.sort(0, 1, 60);
        far.trip(0, 40, 1, 0);
        Edges.due("as far as can be", far.bound(13200), 0);
        Edges.due("a second less", far.bound(13199), -1);
        BetweenStops rides = pairs();
        rides.stop(0, 5, 0, 0);
        rides.trip(5, 40, 1, 0);
        Edges.due("nobody walks", rides.bound(0), 19);
        Edges.due("a second does not do", rides.bound(1), 19);
        rides.open(4, 0);
        Edges.due("as if it were open", rides.bound(0), 19);
    }

    private static void least() {
        Edges.words("BEST of those with which no TRIP costs more than so much (0 .. 999999) above what it does now; -1: none. BAD.");
        Edges.bounds(BAD, 0, 999999, Towns::rich, (x, drop) -> x.least(drop));
        Edges.outside(BAD, 0, 999999, Towns::empty, (x, drop) -> x.least(drop));
        Edges.due("nobody goes", Towns.empty().least(0), 0);
        // Who stays aboard is held up 21 seconds for one who gets in or out on the way, and else walks 200.
        BetweenStops x = Towns.ends(1);
        x.stop(0, 20, 21, 0);
        x.trip(0, 40, 99, 0);
        x.trip(20, 40, 1, 0);
        Edges.due("now", x.takes(1, 0), 60);
        Edges.due("walks then: 340 above now, of 99 who gain", x.least(340), 3);
        Edges.due("one less", x.least(339), 7);
        Edges.due("no loss at all", x.least(0), 7);
        BetweenStops first = Towns.ends(1);
        first.stop(0, 20, 21, 0);
        first.trip(20, 40, 1, 0);
        first.trip(0, 40, 99, 0);
        Edges.due("of the first trip: 340 above now", first.least(340), 3);
        Edges.due("of the first trip: one less", first.least(339), 7);
        x.open(2, 0);
        Edges.due("he walks now, so he loses nothing", x.least(0), 3);
        Edges.due("now, it is the best", x.best(0), 3);
        Edges.due("there is always the set as it is now", Towns.full().least(0) >= 0 ? 1 : 0, 1);
    }

    private static void fair() {
        Edges.words("The SET with which the TRIP that costs most costs least; of like ones the least as bits.");
        Edges.due("no trips, no stops", Towns.empty().fair(), 0);
        BetweenStops nobody = new BetweenStops();
        nobody.stop(0, 0, 0, 0);
        nobody.stop(0, 40, 0, 0);
        Edges.due("no trips", nobody.fair(), 0);
        Edges.due("3 of 3, 5, 10, 12", pairs().fair(), 3);
        // {2, 3}: 100 walked and 28 ridden, by the first and the last. {0, 1, 2}: 128, by the first alone.
        BetweenStops x = new BetweenStops();
        x.sort(0, 0, 5);
        x.car(0, 4);
        x.car(1, 2);
        x.stop(2, 40, 20, 0);
        x.stop(2, 10, 10, 1);
        x.stop(0, 20, 0, 1);
        x.stop(2, 30, 0, 0);
        x.trip(10, 30, 1, 0);
        x.trip(10, 20, 1, 0);
        x.trip(20, 40, 1, 0);
        Edges.due("the least as bits, though there are fewer stops with others", x.fair(), 7);
        x.open(0, 0);
        x.open(1, 0);
        Edges.due("with the others", x.sum(2), 128);
        x.open(0, 1);
        x.open(1, 1);
        x.open(3, 0);
        Edges.due("with these", x.sum(2), 128);
    }

    private static void fewest() {
        Edges.words("The fewest STOPS with which the TOTAL is no more than most (0 .. 999999999), of like ones the least as bits; -1: "
            + "none. BAD.");
        Edges.bounds(BAD, 0, 999999999, Towns::rich, (x, most) -> x.fewest(most));
        Edges.outside(BAD, 0, 999999999, Towns::empty, (x, most) -> x.fewest(most));
        Edges.due("nobody goes: none, for nothing", Towns.empty().fewest(0), 0);
        BetweenStops x = twoOrThree();
        Edges.due("two stops ahead of three, which are less as bits", x.fewest(128), 9);
        Edges.due("less than the least", x.fewest(127), -1);
        Edges.due("the total of nobody riding", x.fewest(240), 0);
        Edges.due("one less", x.fewest(239), 3);
        BetweenStops like = pairs();
        Edges.due("the total", like.fewest(120), 3);
        Edges.due("less", like.fewest(119), -1);
        Edges.due("walks", like.fewest(800), 0);
        Edges.due("rather not", like.fewest(799), 3);
        Edges.due("all eight", eight().fewest(124), 255);
        Edges.due("none of them", eight().fewest(123), -1);
    }

    private static void judge() {
        Edges.words("A SHEET tells of all STOPS whether they are OPEN (1, 0): the first TRIP whose best way then has more seconds of "
            + "WALKING than its SORT walks at most; -1: none.");
        BetweenStops x = Towns.ends(1);
        Towns.write(x, 0, 0, 1, 1);
        Towns.write(x, 1, 1, 0, 1);
        Towns.write(x, 2, 2, 0, 0);
        Edges.due("nobody goes", x.judge(2), -1);
        x.trip(0, 30, 1, 0);
        x.trip(0, 40, 1, 0);
        x.trip(0, 40, 1, 1);
        Edges.due("none walks far", x.judge(0), -1);
        Edges.due("300 are no more than 300; 400 are", x.judge(1), 1);
        Edges.due("the same", x.judge(2), 1);
        x.sort(0, 5, 400);
        Edges.due("600 are more than 200", x.judge(2), 2);
        x.sort(1, 5, 600);
        Edges.due("none", x.judge(2), -1);
        x.sort(1, 5, 599);
        Edges.due("a second less", x.judge(2), 2);
        x.sort(0, 5, 299);
        Edges.due("the first of several", x.judge(2), 0);
        x.open(0, 0);
        Edges.due("as told, not as it is now", x.judge(0), -1);
        Edges.due("as it is now still", x.takes(1, 3), 400);
    }

    private static void judgedNumbers() {
        Edges.words("BAD: SHEET; -11; BAD: its size, a number.");
        Edges.outside(BAD, 0, 3, Towns::rich, (x, s) -> x.judge(s));
        Edges.refused("the last sheet, which is missing", -11, Towns::rich, x -> x.judge(3));
        Edges.refused("all missing at first", -11, Towns::empty, x -> x.judge(0));
        Edges.refused("more numbers than stops", BAD, Towns::rich, x -> x.judge(0));
        Edges.refused("fewer numbers than stops", BAD, Towns::rich, x -> x.judge(1));
        BetweenStops none = new BetweenStops();
        none.sheet(0, 0, 0);
        Edges.due("no stops, no numbers", none.judge(0), -1);
        none.trip(0, 40, 1, 0);
        Edges.due("no stops, one who walks", none.judge(0), 0);
        none.sheet(0, 0, 1);
        Edges.due("no stops, one number", none.judge(0), BAD);
        BetweenStops x = new BetweenStops();
        for (int p = 0; p < 8; p++) {
            x.stop(0, p, 0, 0);
        }
        for (int size = 0; size <= 41; size++) {
            x.sheet(0, 2, size);
            Edges.due("eight stops, " + size + " numbers", x.judge(0), size == 8 ? -1 : BAD);
        }
        x.sheet(0, 2, 8);
        for (int p = 0; p < 8; p += 7) {
            for (int v : new int[] {-1, 2, Integer.MIN_VALUE, Integer.MAX_VALUE}) {
                x.cell(0, p, v);
                Edges.due("number " + p + " is " + v, x.judge(0), BAD);
            }
            x.cell(0, p, 1);
            Edges.due("number " + p + " is 1", x.judge(0), -1);
        }
        // Of bytes the lowest 8 bits are 1, of shorts the lowest 16.
        x.sheet(0, 0, 8);
        x.cell(0, 0, 257);
        Edges.due("257 in a byte", x.judge(0), -1);
        x.sheet(0, 1, 8);
        x.cell(0, 0, 257);
        Edges.due("257 in a short", x.judge(0), BAD);
        x.cell(0, 0, 65537);
        Edges.due("65537 in a short", x.judge(0), -1);
    }

    private static void patterns() {
        Edges.words("PATTERNS of the first 5 STOPS (as many as there are) with which the TOTAL is least, of like ones the first by STOPS: "
            + "these as digits (what 0; 0 without STOPS), the TOTAL (1). NO: what.");
        Edges.bounds(NO, 0, 1, Towns::rich, (x, what) -> x.patterns(what));
        Edges.outside(NO, 0, 1, Towns::empty, (x, what) -> x.patterns(what));
        BetweenStops x = new BetweenStops();
        x.trip(0, 40, 1, 0);
        Edges.due("without stops", x.patterns(0), 0);
        Edges.due("without stops, the total", x.patterns(1), 800);
        for (int stops = 1; stops <= 8; stops++) {
            BetweenStops y = new BetweenStops();
            for (int p = 0; p < stops; p++) {
                y.stop(0, 20, 0, 0);
            }
            Edges.due("nobody rides by " + stops, y.patterns(0), 0);
        }
        BetweenStops like = Towns.ends(1);
        like.sort(0, 3, 0);
        like.trip(0, 40, 1, 0);
        Edges.due("both cars, or one: the first", like.patterns(0), 0);
        BetweenStops held = new BetweenStops();
        held.car(0, 1);
        held.sort(0, 3, 0);
        held.stop(0, 20, 40, 0);
        held.stop(0, 0, 0, 0);
        held.stop(0, 40, 0, 0);
        held.trip(0, 40, 1, 0);
        // The first by car 0 alone, the second by both, the third by car 1 alone.
        Edges.due("the first stop's comes ahead of the others'", held.patterns(0), 102);
        like.turns(0, 2);
        like.turns(1, 1);
        Edges.due("whatever they are now", like.patterns(0), 0);
        Edges.due("and stay", like.told(0, 5) * 10 + like.told(1, 5), 21);
        like.stop(0, 20, 1, 0);
        // (121 + 120) by 2 is 120, as is (120 + 121) by 2: the third stop is of car 0 alone.
        Edges.due("half a second is cut", like.patterns(0), 1);
        Edges.due("its total", like.patterns(1), 120);
    }

    private static void patternsOfMore() {
        Edges.words("PATTERNS of the first 5 STOPS");
        // Who rides from the first to the second is held up by all others, which nobody needs: by one car, of which three
        // of them are not, it costs two seconds and those that are behind the first five.
        int[] digits = {0, 12, 122, 1222, 1222, 1222, 1222};
        for (int more = 0; more <= 6; more++) {
            BetweenStops x = Towns.ends(1);
            for (int p = 0; p < more; p++) {
                x.stop(0, 10 + p, 40, 0);
            }
            x.trip(0, 40, 1, 0);
            int passed = Math.min(3, more);
            int held = more - passed;
            long total = more == 0 ? 120 : 2 + 120 + 40 * held;
            Edges.due("total with " + more, x.patterns(1), total);
            Edges.due("digits with " + more, x.patterns(0), digits[more]);
        }
    }
}
