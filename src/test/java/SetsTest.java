/** Promises 19 to 25: sets of open stops, patterns. */
public final class SetsTest {
    private SetsTest() {
    }

    public static void main(String[] args) {
        best();
        bound();
        least();
        fair();
        fewest();
        judge();
        patterns();
        Due.end();
    }

    /**
     * Totals: none or one open 8800; {0, 1} and {1, 2} 8360; {0, 2} 5000 (420 for the first trip, 400 for the
     * others); all 5520 (480 and 360).
     */
    private static BetweenStops town() {
        BetweenStops x = new BetweenStops();
        x.stop(0, 0, 0, 0);
        x.stop(0, 20, 60, 0);
        x.stop(0, 40, 0, 0);
        x.trip(0, 40, 10, 0);
        x.trip(20, 40, 1, 0);
        x.trip(0, 20, 1, 0);
        return x;
    }

    /** Just the one who loses by {0, 2} comes first. */
    private static BetweenStops otherOrder() {
        BetweenStops x = new BetweenStops();
        x.stop(0, 0, 0, 0);
        x.stop(0, 20, 60, 0);
        x.stop(0, 40, 0, 0);
        x.trip(20, 40, 1, 0);
        x.trip(0, 40, 10, 0);
        return x;
    }

    private static void best() {
        BetweenStops x = town();
        Due.due("best set", x.best(0), 5);
        Due.due("best total", x.best(1), 5000);
        x.open(0, 0);
        x.open(2, 0);
        Due.due("best set, of those that aren't open too", x.best(0), 5);
        Due.due("best total, the same", x.best(1), 5000);
        Due.due("what is asked opens none", x.count(2), 1);
        Due.due("best 2", x.best(2), BetweenStops.NO);
        Due.due("best -1", x.best(-1), BetweenStops.NO);
        BetweenStops like = new BetweenStops();
        like.stop(0, 0, 0, 0);
        like.stop(0, 0, 0, 0);
        like.stop(0, 40, 0, 0);
        like.stop(0, 40, 0, 0);
        Due.due("nobody goes: the fewest", like.best(0), 0);
        like.trip(0, 40, 1, 0);
        Due.due("the fewest, then the least", like.best(0), 5);
        Due.due("no stops", new BetweenStops().best(0), 0);
    }

    private static void bound() {
        BetweenStops x = town();
        Due.due("bound 200", x.bound(200), 5);
        Due.due("bound 199", x.bound(199), 7);
        Due.due("bound 0", x.bound(0), 7);
        x.open(1, 0);
        Due.due("bound 199 with one that isn't open", x.bound(199), 7);
        BetweenStops other = otherOrder();
        Due.due("bound 199 of the first trip", other.bound(199), 7);
        Due.due("bound 200 of the first trip", other.bound(200), 5);
        x.trip(1, 40, 1, 0);
        Due.due("bound that none meets", x.bound(9), -1);
        Due.due("bound 10", x.bound(10), 7);
        Due.due("bound 99999", x.bound(99999), 5);
        Due.due("bound -1", x.bound(-1), BetweenStops.BAD);
        Due.due("bound 100000", x.bound(100000), BetweenStops.BAD);
    }

    private static void least() {
        BetweenStops x = town();
        Due.due("least 39", x.least(39), 7);
        Due.due("least 40", x.least(40), 5);
        Due.due("least 39 of the first trip", otherOrder().least(39), 7);
        Due.due("least 40 of the first trip", otherOrder().least(40), 5);
        x.open(1, 0);
        Due.due("as it is now", x.least(0), 5);
        x.open(0, 0);
        x.open(2, 0);
        Due.due("all walk now", x.least(0), 5);
        Due.due("least 999999", x.least(999999), 5);
        Due.due("least -1", x.least(-1), BetweenStops.BAD);
        Due.due("least 1000000", x.least(1000000), BetweenStops.BAD);
    }

    private static void fair() {
        BetweenStops x = town();
        Due.due("fair", x.fair(), 5);
        // Many who go from cell 20 move the total, not the highest cost.
        x.trip(20, 40, 99, 0);
        Due.due("best then", x.best(0), 7);
        Due.due("fair then", x.fair(), 5);
        BetweenStops like = new BetweenStops();
        like.stop(0, 20, 0, 0);
        like.stop(0, 0, 0, 0);
        like.stop(0, 40, 0, 0);
        Due.due("nobody goes", like.fair(), 0);
        like.trip(0, 40, 1, 0);
        Due.due("fair of three", like.fair(), 6);
        like.stop(0, 40, 0, 0);
        Due.due("the least of like ones", like.fair(), 6);
        like.open(1, 0);
        Due.due("one that isn't open", like.fair(), 6);
    }

    private static void fewest() {
        BetweenStops x = town();
        Due.due("fewest 8800", x.fewest(8800), 0);
        Due.due("fewest 8799", x.fewest(8799), 3);
        Due.due("fewest 8360", x.fewest(8360), 3);
        Due.due("fewest 8359", x.fewest(8359), 5);
        Due.due("fewest 5000", x.fewest(5000), 5);
        Due.due("fewest 4999", x.fewest(4999), -1);
        Due.due("fewest 0", x.fewest(0), -1);
        Due.due("fewest 999999999", x.fewest(999999999), 0);
        // Four trips of 2 + 27; who finds one stop gone walks a cell to the next and rides a cell more.
        BetweenStops many = new BetweenStops();
        many.car(0, 4);
        for (int t = 0; t < 4; t++) {
            many.stop(0, 10 * t, 0, 0);
            many.stop(0, 10 * t + 9, 0, 0);
            many.trip(10 * t, 10 * t + 9, 1, 0);
        }
        int all = 4 * (4 + 27);
        Due.due("all eight", many.fewest(all), 255);
        Due.due("none less", many.fewest(all - 1), -1);
        Due.due("all eight still", many.fewest(all + 22), 255);
        Due.due("seven, the least as bits", many.fewest(all + 23), 191);
        Due.due("fewest -1", x.fewest(-1), BetweenStops.BAD);
        Due.due("fewest 1000000000", x.fewest(1000000000), BetweenStops.BAD);
    }

    private static void judge() {
        BetweenStops x = town();
        Due.due("judge -1", x.judge(-1), BetweenStops.BAD);
        Due.due("judge 4", x.judge(4), BetweenStops.BAD);
        Due.due("judge a missing one", x.judge(0), -11);
        x.sheet(0, 0, 2);
        Due.due("too few numbers", x.judge(0), BetweenStops.BAD);
        x.sheet(0, 0, 4);
        Due.due("too many numbers", x.judge(0), BetweenStops.BAD);
        for (int sort = 0; sort < 3; sort++) {
            x.sheet(1, sort, 3);
            Due.due("none open: 400 seconds are walked", x.judge(1), 0);
            x.cell(1, 0, 1);
            x.cell(1, 2, 1);
            Due.due("two open", x.judge(1), -1);
            x.cell(1, 1, 2);
            Due.due("a number that is BAD", x.judge(1), BetweenStops.BAD);
            x.cell(1, 1, -1);
            Due.due("another one", x.judge(1), BetweenStops.BAD);
        }
        x.cell(1, 1, 0);
        x.sort(0, 5, 200);
        Due.due("no more than 200", x.judge(1), -1);
        x.sort(0, 5, 199);
        Due.due("more than 199", x.judge(1), 1);
        x.trip(0, 40, 1, 2);
        x.sort(0, 5, 9999);
        x.sort(2, 5, 0);
        x.sort(2, 3, 0);
        Due.due("of another sort, none walked", x.judge(1), -1);
        x.cell(1, 0, 0);
        Due.due("of another sort, walked", x.judge(1), 3);
        Due.due("what is asked closes none", x.count(2), 3);
        x.sheet(2, 0, 3);
        x.cell(2, 0, 1);
        x.cell(2, 1, 1);
        x.sort(0, 5, 199);
        Due.due("the last one not open: 200 walked", x.judge(2), 0);
    }

    private static void patterns() {
        BetweenStops none = new BetweenStops();
        none.trip(0, 10, 2, 0);
        Due.due("without stops", none.patterns(0), 0);
        Due.due("the total without stops", none.patterns(1), 400);
        BetweenStops x = town();
        // Just car 0 stops in cell 20: (60 + 120) by 2 more, 150 waited; the others walk.
        Due.due("patterns", x.patterns(0), 10);
        Due.due("patterns' total", x.patterns(1), 5300);
        Due.due("patterns 2", x.patterns(2), BetweenStops.NO);
        Due.due("patterns -1", x.patterns(-1), BetweenStops.NO);
        x.turns(1, 2);
        Due.due("whatever they are", x.patterns(0), 10);
        Due.due("what is asked turns none", x.told(1, 5), 2);
        BetweenStops first = new BetweenStops();
        first.stop(0, 20, 60, 0);
        first.stop(0, 0, 0, 0);
        first.stop(0, 40, 0, 0);
        first.trip(0, 40, 10, 0);
        Due.due("the first one", first.patterns(0), 100);
        Due.due("its total", first.patterns(1), 4500);
        BetweenStops six = new BetweenStops();
        six.car(0, 2);
        six.trip(0, 40, 10, 0);
        six.stop(0, 0, 0, 0);
        for (int p = 1; p < 5; p++) {
            six.stop(0, 40, 0, 0);
        }
        six.stop(0, 20, 60, 0);
        Due.due("the sixth stays", six.patterns(0), 0);
        Due.due("its total", six.patterns(1), 10 * (2 + 180));
        six.turns(5, 1);
        // By car 1, which does not stop at the sixth: 2 waited, 120 ridden.
        Due.due("the last of five", six.patterns(0), 2);
        Due.due("its total", six.patterns(1), 10 * (4 + 120));
        six.open(4, 0);
        Due.due("the last that is open", six.patterns(0), 20);
    }
}
