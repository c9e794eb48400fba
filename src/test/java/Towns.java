/** Towns to ask in. */
final class Towns {
    private Towns() {
    }

    static BetweenStops empty() {
        return new BetweenStops();
    }

    /** Something of everything, and room for more of it; trip 3 walks, sheet 3 is missing. */
    static BetweenStops rich() {
        BetweenStops x = new BetweenStops();
        x.road(3, 4);
        x.road(20, 2);
        x.sort(1, 0, 14);
        x.car(0, 60);
        for (int kind = 0; kind < 6; kind++) {
            x.stop(kind, 1 + 7 * kind, 20 + kind, 3 + kind);
        }
        x.open(2, 0);
        x.want(1, 7);
        x.turns(3, 1);
        x.trip(0, 40, 5, 0);
        x.trip(38, 2, 7, 1);
        x.trip(9, 30, 2, 2);
        x.trip(5, 6, 1, 0);
        x.image();
        Due.textOf(x, "stay 300<cost;late wait;ask sort+many;");
        x.force(1);
        x.road(4, 9);
        x.sort(0, 1, 6);
        x.car(1, 2);
        x.want(5, 2);
        x.open(4, 0);
        x.trip(40, 1, 3, 2);
        write(x, 0, 0, 1, 2, 3, 0, 4, 5, 6, 1);
        write(x, 1, 1, 7, 8, 9, 2, 30);
        write(x, 2, 2, 1, 0, 1, 1, 0, 1);
        Due.feedAll(x, "stay 1;late 2;ask ");
        return x;
    }

    /** Eight stops, eight trips, six texts, a full tape, four sheets of 41, an image. */
    static BetweenStops full() {
        BetweenStops x = new BetweenStops();
        for (int i = 0; i < 8; i++) {
            x.stop(0, 5 * i, 0, 0);
            x.trip(5 * i, 5, 1 + i, i % 3);
        }
        x.car(0, 40);
        for (int t = 1; t < 6; t++) {
            Due.textOf(x, "stay 0;late 0;ask 0;");
        }
        for (int i = 0; i < 20; i++) {
            x.feed(0x2020202020202020L, 8);
        }
        for (int s = 0; s < 4; s++) {
            x.sheet(s, s % 3, 41);
        }
        x.image();
        return x;
    }

    /** A flat road, two plain stops that cost nothing at its ends, a car every so many seconds. */
    static BetweenStops ends(int every) {
        BetweenStops x = new BetweenStops();
        x.car(0, every);
        x.stop(0, 0, 0, 0);
        x.stop(0, 40, 0, 0);
        return x;
    }

    static void write(BetweenStops x, int s, int sort, int... row) {
        x.sheet(s, sort, row.length);
        for (int i = 0; i < row.length; i++) {
            x.cell(s, i, row[i]);
        }
    }
}
