/** Promises 41 to 45: sheets, and what is taken for what. */
public final class HostTest {
    private HostTest() {
    }

    public static void main(String[] args) {
        sheet();
        cell();
        copy();
        copiesAside();
        tripsBy();
        taken();
        Due.end();
    }

    private static void sheet() {
        BetweenStops x = new BetweenStops();
        Due.due("sheet -1", x.sheet(-1, 0, 1), BetweenStops.BAD);
        Due.due("sheet 4", x.sheet(4, -1, 1), BetweenStops.BAD);
        Due.due("sort -2", x.sheet(0, -2, 1), BetweenStops.BAD);
        Due.due("sort 3", x.sheet(0, 3, -1), BetweenStops.BAD);
        Due.due("size 42", x.sheet(0, 2, 42), BetweenStops.BAD);
        Due.due("size -1", x.sheet(0, 2, -1), -14);
        Due.due("size of the least", x.sheet(3, 0, Integer.MIN_VALUE), -14);
        Due.due("none came of it", x.cell(0, 0, 0), -11);
        for (int s = 0; s < 4; s++) {
            Due.due("sheet " + s, x.sheet(s, s % 3, 41), 1);
            Due.due("its last place", x.cell(s, 40, 1), 1);
            Due.due("none behind it", x.cell(s, 41, 1), -12);
            Due.due("missing", x.sheet(s, -1, 42), 1);
            Due.due("nothing there", x.cell(s, 0, 1), -11);
        }
        Due.due("of none", x.sheet(0, 0, 0), 1);
        Due.due("no place", x.cell(0, 0, 0), -12);
        // A row that is made anew is all 0.
        x.sheet(0, 2, 4);
        x.cell(0, 2, 5);
        x.sheet(0, 2, 4);
        Due.due("many 0 is no trip", x.tripsBy(0, 2, 0, 1), 0);
    }

    private static void cell() {
        BetweenStops x = new BetweenStops();
        Due.due("cell of sheet -1", x.cell(-1, 0, 0), BetweenStops.BAD);
        Due.due("cell of sheet 4", x.cell(4, 0, 0), BetweenStops.BAD);
        Due.due("cell of none", x.cell(0, -1, 0), -11);
        x.sheet(0, 0, 4);
        Due.due("place -1", x.cell(0, -1, 0), -12);
        Due.due("place 4", x.cell(0, 4, 0), -12);
        Due.due("place of the most", x.cell(0, Integer.MAX_VALUE, 0), -12);
        // The lowest 8 bits of 256 + 40 are 40, of 255 they are -1.
        many(x, 0, 256 + 40, 40);
        many(x, 0, -256 + 7, 7);
        many(x, 0, 128 + 40, -11);
        many(x, 1, 65536 + 40, 40);
        many(x, 1, 256 + 40, -11);
        many(x, 1, 32768 + 40, -11);
        many(x, 2, 40, 40);
        many(x, 2, 65536 + 40, -11);
    }

    /** A number is seen as how many go a trip that is taken from the sheet. */
    private static void many(BetweenStops x, int sort, int v, int want) {
        x.image();
        x.sheet(1, sort, 4);
        Due.due("write " + v, x.cell(1, 2, v), 1);
        Due.due("trips by " + v, x.tripsBy(1, sort, 0, 1), want < 0 ? 0 : 1);
        Due.due("many of " + v, x.taken(x.count(1) > 0 ? x.count(1) - 1 : 0, 6), want);
        if (want >= 0) {
            x.sheet(1, sort, 4);
        }
        // An image without trips was kept ahead of it.
        x.back();
    }

    private static void copy() {
        BetweenStops x = new BetweenStops();
        x.sheet(0, 1, 10);
        x.sheet(1, 1, 5);
        x.sheet(2, 2, 5);
        Due.due("copy of 4", x.copy(4, 0, 0, 0, 1), BetweenStops.BAD);
        Due.due("copy to 4", x.copy(0, 0, 4, 0, 1), BetweenStops.BAD);
        Due.due("copy of -1", x.copy(-1, 0, 3, 0, 1), BetweenStops.BAD);
        Due.due("copy of none", x.copy(3, 0, 0, 0, 1), -11);
        Due.due("copy to none", x.copy(0, 0, 3, 0, -1), -11);
        Due.due("copy to another sort", x.copy(0, 0, 2, 0, -1), -13);
        Due.due("copy to a longer one", x.copy(1, 0, 0, 5, 5), 5);
        Due.due("copy past its end", x.copy(1, 0, 0, 6, 5), -12);
        Due.due("copy from past the end", x.copy(1, 1, 0, 0, 5), -12);
        Due.due("copy from -1", x.copy(1, -1, 0, 0, 1), -12);
        Due.due("copy to -1", x.copy(1, 0, 0, -1, 1), -12);
        Due.due("copy -1", x.copy(1, 0, 0, 0, -1), -12);
        Due.due("copy none at the end", x.copy(1, 5, 0, 10, 0), 0);
        Due.due("copy none past the end", x.copy(1, 6, 0, 0, 0), -12);
        Due.due("copy none to past the end", x.copy(1, 0, 0, 11, 0), -12);
        Due.due("copy very many", x.copy(1, 1, 0, 1, Integer.MAX_VALUE), -12);
        Due.due("copy from very far", x.copy(1, Integer.MAX_VALUE, 0, 0, 1), -12);
    }

    private static void copiesAside() {
        BetweenStops x = new BetweenStops();
        x.sheet(0, 2, 12);
        int[] trip = {3, 4, 50, 1};
        for (int i = 0; i < 4; i++) {
            x.cell(0, i, trip[i]);
        }
        // Its own places, as they were: 3 4 50 1 behind the first two.
        Due.due("copy upwards", x.copy(0, 0, 0, 2, 10), 10);
        Due.due("a trip", x.tripsBy(0, 2, 2, 1), 1);
        Due.due("its people", x.taken(0, 6), 50);
        Due.due("copy downwards", x.copy(0, 2, 0, 1, 10), 10);
        Due.due("a trip", x.tripsBy(0, 2, 1, 1), 1);
        Due.due("its people", x.taken(1, 6), 50);
        x.sheet(1, 2, 41);
        Due.due("copy to another", x.copy(0, 1, 1, 37, 4), 4);
        Due.due("a trip", x.tripsBy(1, 2, 37, 1), 1);
        Due.due("its people", x.taken(2, 6), 50);
        Due.due("it goes as far", x.takes(2, 3), 15);
    }

    private static void tripsBy() {
        BetweenStops x = new BetweenStops();
        Due.due("trips by sheet 4", x.tripsBy(4, 0, 0, 1), BetweenStops.BAD);
        Due.due("trips by sheet -1", x.tripsBy(-1, 0, 0, 1), BetweenStops.BAD);
        Due.due("trips by sort -1", x.tripsBy(0, -1, 0, 1), BetweenStops.BAD);
        Due.due("trips by sort 3", x.tripsBy(0, 3, 0, 1), BetweenStops.BAD);
        Due.due("-1 trips", x.tripsBy(0, 0, 0, -1), BetweenStops.BAD);
        Due.due("9 trips", x.tripsBy(0, 0, 0, 9), BetweenStops.BAD);
        Due.due("trips by none", x.tripsBy(0, 0, 0, 1), -11);
        x.sheet(0, 0, 41);
        Due.due("trips by another sort", x.tripsBy(0, 1, -1, 1), -13);
        for (int i = 0; i < 10; i++) {
            x.cell(0, 4 * i + 1, 40);
            x.cell(0, 4 * i + 2, i == 1 ? 0 : i + 1);
        }
        Due.due("no trips", x.tripsBy(0, 0, 0, 0), 0);
        Due.due("three, one of which is none", x.tripsBy(0, 0, 0, 3), 2);
        Due.due("the first", x.taken(0, 6), 1);
        Due.due("the next", x.taken(1, 6), 3);
        Due.due("from -1", x.tripsBy(0, 0, -1, 1), -12);
        Due.due("from -4, none of them", x.tripsBy(0, 0, -4, 8), -12);
        Due.due("from very far", x.tripsBy(0, 0, Integer.MAX_VALUE, 8), -12);
        Due.due("from very far below", x.tripsBy(0, 0, Integer.MIN_VALUE, 8), -12);
        Due.due("trips", x.count(1), 2);
        Due.due("just inside", x.tripsBy(0, 0, 36, 1), 1);
        Due.due("the last place is left alone", x.tripsBy(0, 0, 36, 2), -12);
        Due.due("what stood ahead came", x.count(1), 4);
        Due.due("two too near the end", x.tripsBy(0, 0, 38, 1), -12);
        Due.due("as many as there is room for", x.tripsBy(0, 0, 8, 8), 4);
        Due.due("FULL", x.count(1), 8);
        Due.due("others are left out", x.tripsBy(0, 0, 8, 8), 0);
        Due.due("past the end, with room for none", x.tripsBy(0, 0, 12, 8), -12);
    }

    private static void taken() {
        BetweenStops x = new BetweenStops();
        for (int kind = 0; kind < 6; kind++) {
            x.stop(kind, 1, 1, 1);
        }
        x.trip(0, 0, 77, 0);
        boolean[][] is = {
            {true, false, false, false, false, false},
            {true, true, false, false, false, false},
            {true, false, true, false, false, false},
            {true, false, false, true, false, false},
            {true, false, true, false, true, false},
            {true, true, false, false, false, true}};
        for (int p = 0; p < 6; p++) {
            for (int kind = 0; kind < 6; kind++) {
                Due.due("stop of kind " + p + " taken for " + kind, x.taken(8 + p, kind), is[p][kind] ? p : -13);
            }
            Due.due("a stop taken for a trip", x.taken(8 + p, 6), -13);
            Due.due("a trip taken for a stop", x.taken(0, p), -13);
        }
        Due.due("a trip", x.taken(0, 6), 77);
        Due.due("taken for -1", x.taken(16, -1), BetweenStops.BAD);
        Due.due("taken for 7", x.taken(16, 7), BetweenStops.BAD);
        Due.due("place 16", x.taken(16, 0), -12);
        Due.due("place -1", x.taken(-1, 0), -12);
        Due.due("no trip", x.taken(1, 0), -11);
        Due.due("no trip in the last place", x.taken(7, 6), -11);
        Due.due("no stop", x.taken(14, 6), -11);
        Due.due("no stop in the last place", x.taken(15, 0), -11);
    }
}
