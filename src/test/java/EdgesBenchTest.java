/** The edges of giving up, and of promises 26 to 30. */
public final class EdgesBenchTest {
    private static final int BAD = BetweenStops.BAD;
    private static final long NO = BetweenStops.NO;

    private EdgesBenchTest() {
    }

    public static void main(String[] args) {
        givingUp();
        bench();
        benchOfLikeOnes();
        give();
        order();
        thins();
        across();
        Due.end();
    }

    /** Stops p of as many in cell 20, as many seconds as told; the first two are the ends, where one gets in and out. */
    private static BetweenStops held(int... takes) {
        BetweenStops x = Towns.ends(1);
        for (int t : takes) {
            x.stop(0, 20, t, 0);
        }
        x.trip(0, 40, 1, 0);
        return x;
    }

    private static BetweenStops eightAlike() {
        BetweenStops x = new BetweenStops();
        for (int p = 0; p < 8; p++) {
            x.stop(p % 6, 5 * p, 9, 1);
        }
        return x;
    }

    private static void givingUp() {
        Edges.words("GIVING UP: the OPEN STOP without which the TOTAL is least, of like ones the least.");
        Edges.due("what holds up most", held(5, 7, 6).give(), 3);
        Edges.due("the least of like ones", held(5, 7, 7).give(), 3);
        Edges.due("the least of like ones, what is given up first", eightAlike().give(), 0);
        Edges.due("the total may be more then", held().give(), 0);
        BetweenStops x = held(5, 7, 7);
        x.open(3, 0);
        Edges.due("of those that are open", x.give(), 4);
        x.open(4, 0);
        Edges.due("of those that are open", x.give(), 2);
    }

    private static void bench(BetweenStops x, int p, long... want) {
        for (int what = 0; what < want.length; what++) {
            Edges.due("bench " + p + " " + what, x.bench(p, what), want[what]);
        }
    }

    private static void bench() {
        Edges.words("Were a STOP not OPEN that is, or OPEN that isn't: what 0 how much more the TOTAL would be, 1 how many people would "
            + "have what costs them more, 2 less, 3 how much more at most (0 at least). NO: none such.");
        Edges.bounds(NO, 0, 5, Towns::rich, (x, p) -> x.bench(p, 0));
        Edges.bounds(NO, 0, 3, Towns::rich, (x, what) -> x.bench(5, what));
        Edges.refused("both", NO, Towns::rich, x -> x.bench(6, 4));
        Edges.refused("no stops", NO, Towns::empty, x -> x.bench(0, 0));
        Edges.unchanged("of an open one", Towns::rich, x -> x.bench(0, 0));
        Edges.unchanged("of one that isn't", Towns::rich, x -> x.bench(2, 3));
        BetweenStops nobody = eightAlike();
        bench(nobody, 7, 0, 0, 0, 0);
        // One is held up a second; or eight trips are; or two of three, the other of which rides to where they are held up.
        BetweenStops x = held(1);
        bench(x, 2, -1, 0, 1, 0);
        x.open(2, 0);
        bench(x, 2, 1, 1, 0, 1);
        BetweenStops eight = held(1);
        for (int i = 1; i < 8; i++) {
            eight.trip(40, 0, 99, 0);
        }
        bench(eight, 2, -694, 0, 694, 0);
        eight.open(2, 0);
        bench(eight, 2, 694, 694, 0, 1);
        BetweenStops both = held(1);
        both.trip(0, 20, 99, 0);
        both.trip(0, 40, 98, 0);
        bench(both, 2, 99 * 340 - 99, 99, 99, 340);
        both.open(2, 0);
        bench(both, 2, 99 - 99 * 340, 99, 99, 1);
    }

    private static void benchOfLikeOnes() {
        Edges.words("1 how many people would have what costs them more, 2 less, 3 how much more at most (0 at least).");
        // By another stop of the same cell it costs as much.
        BetweenStops x = Towns.ends(1);
        x.stop(0, 0, 0, 0);
        x.trip(0, 40, 99, 0);
        bench(x, 0, 0, 0, 0, 0);
        x.open(2, 0);
        bench(x, 0, 99 * 680, 99, 0, 680);
        bench(x, 2, 0, 0, 0, 0);
        // Two lose, a little and much: at most is of one of them, whatever MANY.
        BetweenStops two = Towns.ends(1);
        two.trip(0, 40, 1, 0);
        two.trip(0, 30, 99, 0);
        bench(two, 1, 680 + 99 * (600 - 320), 100, 0, 680);
    }

    private static void give() {
        Edges.words("GIVING UP: the STOP; -1: none is OPEN.");
        Edges.due("no stops", Towns.empty().give(), -1);
        BetweenStops x = eightAlike();
        for (int p = 0; p < 8; p++) {
            Edges.due("the first that is open", x.give(), p);
            x.open(p, 0);
        }
        Edges.due("none is open", x.give(), -1);
        x.open(7, 1);
        Edges.due("the only one", x.give(), 7);
        Edges.unchanged("give", Towns::rich, y -> y.give());
    }

    private static void order() {
        Edges.words("As one by one n STOPS (0 .. 8) were GIVEN UP: which, as digits, each 1 more than its number, the first one's the "
            + "highest (fewer, as none is left; 0: none). BAD.");
        Edges.bounds(BAD, 0, 8, Towns::rich, (x, n) -> x.order(n));
        Edges.outside(BAD, 0, 8, Towns::empty, (x, n) -> x.order(n));
        Edges.unchanged("order", Towns::rich, x -> x.order(8));
        Edges.due("none of none", Towns.empty().order(0), 0);
        Edges.due("eight of none", Towns.empty().order(8), 0);
        long[] digits = {0, 1, 12, 123, 1234, 12345, 123456, 1234567, 12345678};
        for (int n = 0; n <= 8; n++) {
            Edges.due(n + " of eight", eightAlike().order(n), digits[n]);
        }
        BetweenStops x = held(5, 7, 6);
        Edges.due("none of five", x.order(0), 0);
        Edges.due("one of five", x.order(1), 4);
        Edges.due("two of five", x.order(2), 45);
        Edges.due("three of five", x.order(3), 453);
        Edges.due("all of five", x.order(5), 45312);
        Edges.due("more than there are", x.order(6), 45312);
        x.open(3, 0);
        Edges.due("four are open", x.order(8), 5312);
        for (int p = 0; p < 5; p++) {
            x.open(p, 0);
        }
        Edges.due("none is open", x.order(8), 0);
        // The last ones cost most to be given up: 8 7 6 .. is the highest that comes.
        BetweenStops highest = new BetweenStops();
        highest.car(0, 1);
        highest.stop(0, 40, 0, 0);
        highest.stop(0, 0, 0, 0);
        for (int p = 2; p < 8; p++) {
            highest.stop(0, 20, p, 0);
        }
        highest.trip(0, 40, 1, 0);
        Edges.due("from above", highest.order(8), 87654312);
    }

    private static void thins() {
        Edges.words("STOPS are GIVEN UP truly, one by one, as long as the TOTAL is no more by it: how many were.");
        Edges.due("no stops", Towns.empty().thins(), 0);
        BetweenStops nobody = eightAlike();
        Edges.due("all eight, as the total stays", nobody.thins(), 8);
        Edges.due("none is open", nobody.count(2), 0);
        Edges.due("none again", nobody.thins(), 0);
        BetweenStops x = held(5, 0, 6);
        x.want(2, 9);
        Edges.due("what holds up, or does not matter", x.thins(), 3);
        Edges.due("the first end stays open", x.told(0, 3), 1);
        Edges.due("the other end stays open", x.told(1, 3), 1);
        Edges.due("the others don't", x.count(2), 2);
        Edges.due("WANTED stays", x.told(2, 4), 9);
        Edges.due("how many there are", x.count(0), 5);
        Edges.due("none again", x.thins(), 0);
        Edges.due("the total", x.sum(0), 120);
        // Together with another one a stop is worth nothing: the first to be given up costs something, so none is.
        BetweenStops pair = Towns.ends(1);
        pair.trip(0, 40, 1, 0);
        Edges.due("a pair that is used", pair.thins(), 0);
        pair.open(1, 0);
        Edges.due("a single one", pair.thins(), 1);
        // A total that is more by one second is more.
        BetweenStops least = Towns.ends(1);
        least.sort(0, 0, 3);
        least.sort(0, 2, 1);
        least.stop(0, 39, 0, 0);
        least.open(1, 0);
        least.trip(0, 39, 1, 0);
        Edges.due("as much to walk: both", least.thins(), 2);
        least.open(0, 1);
        least.open(2, 1);
        least.sort(0, 0, 4);
        Edges.due("a second a cell more to walk: none", least.thins(), 0);
        // Ahead of a closed one nothing is asked of it.
        Edges.unchanged("with none open", Towns::empty, y -> y.thins());
    }

    private static void across() {
        Edges.words("How much more the TOTAL is than if a SHARED STOP were of KIND 0. NO: no such STOP, it isn't SHARED.");
        Edges.outside(NO, 0, 5, Towns::rich, (x, p) -> x.across(p));
        Edges.refused("no stops", NO, Towns::empty, x -> x.across(0));
        Edges.unchanged("across", Towns::rich, x -> x.across(3));
        for (int p = 0; p < 6; p++) {
            BetweenStops x = Towns.rich();
            Edges.due("kind " + p, x.across(p) == NO ? 1 : 0, p == 3 ? 0 : 1);
        }
        for (int more : new int[] {0, 1, 60}) {
            BetweenStops x = Towns.ends(1);
            x.stop(3, 20, 99, more);
            Edges.due("nobody goes", x.across(2), 0);
            x.trip(0, 40, 99, 0);
            Edges.due("MORE " + more, x.across(2), 99 * more);
            Edges.due("at an end it does not matter", ends(more).across(0), 0);
            x.open(2, 0);
            Edges.due("not open", x.across(2), 0);
        }
        // As it is they ride to the SHARED one and walk on; if it were of KIND 0, they would ride past it.
        BetweenStops walks = Towns.ends(1);
        walks.sort(0, 0, 2);
        walks.stop(3, 20, 10, 60);
        walks.trip(0, 40, 2, 0);
        Edges.due("60 ridden, 80 walked", walks.takes(0, 0), 140);
        Edges.due("130 by KIND 0", walks.across(2), 2 * (140 - 130));
        // Its PATTERN stays: 2 waited, as above, and (120 + 130) by 2.
        walks.turns(2, 1);
        Edges.due("125 by KIND 0 and car 0", walks.across(2), 2 * (142 - 125));
    }

    private static BetweenStops ends(int more) {
        BetweenStops x = new BetweenStops();
        x.car(0, 1);
        x.stop(3, 0, 50, more);
        x.stop(3, 40, 50, more);
        x.trip(0, 40, 99, 0);
        return x;
    }
}
