/** The edges of the terms of stops and kinds, and of promises 6 to 10. */
public final class EdgesStopsTest {
    private static final int NONE = BetweenStops.NONE, BAD = BetweenStops.BAD, FULL = BetweenStops.FULL;

    private EdgesStopsTest() {
    }

    public static void main(String[] args) {
        numbers();
        stopsNumbers();
        openAtFirst();
        wanted();
        patterns();
        plain();
        asked();
        turn();
        shared();
        second();
        tolds();
        asAbove();
        whereCarsStop();
        stop();
        open();
        want();
        turns();
        told();
        Due.end();
    }

    private static void numbers() {
        Edges.words("STOPS are numbered from 0 on, 8 at most");
        BetweenStops x = new BetweenStops();
        for (int p = 0; p < 8; p++) {
            Edges.due("none of this number yet", x.told(p, 0), -5);
            Edges.due("the next number", x.stop(p % 6, 5 * p, p, p), p);
            Edges.due("how many", x.count(0), p + 1);
        }
        Edges.due("a ninth", x.stop(0, 0, 0, 0), FULL);
        Edges.refused("a ninth leaves the eight as they were", FULL, Towns::full, y -> y.stop(0, 0, 0, 0));
        Edges.due("none of number 8", x.told(8, 0), -5);
        Edges.due("the last one is open", x.open(7, 0), 1);
        Edges.due("a stop that isn't open takes its place", x.stop(0, 0, 0, 0), FULL);
    }

    private static void stopsNumbers() {
        Edges.words("of a KIND, a CELL, TAKES (0 .. 99 seconds), MORE (0 .. 60)");
        Edges.bounds(BAD, 0, 5, Towns::rich, (x, kind) -> x.stop(kind, 0, 0, 0));
        Edges.bounds(BAD, 0, 40, Towns::rich, (x, cell) -> x.stop(0, cell, 0, 0));
        Edges.bounds(BAD, 0, 99, Towns::rich, (x, takes) -> x.stop(0, 0, takes, 0));
        Edges.bounds(BAD, 0, 60, Towns::rich, (x, more) -> x.stop(0, 0, 0, more));
        BetweenStops x = new BetweenStops();
        x.stop(5, 40, 99, 60);
        x.stop(0, 0, 0, 0);
        Edges.due("the last kind", x.told(0, 0), 5);
        Edges.due("the last cell", x.told(0, 1), 40);
        Edges.due("the first kind", x.told(1, 0), 0);
        Edges.due("the first cell", x.told(1, 1), 0);
        Edges.due("no seconds", x.told(1, 2), 0);
        x.want(0, 10);
        Edges.due("the most seconds", x.told(0, 2), 99 + 60);
    }

    private static void openAtFirst() {
        Edges.words("OPEN or not (OPEN at first)");
        for (int kind = 0; kind < 6; kind++) {
            BetweenStops x = new BetweenStops();
            x.stop(kind, 0, 0, 0);
            Edges.due("kind " + kind, x.told(0, 3), 1);
            Edges.due("closed", x.open(0, 0), 1);
            Edges.due("a later one is open all the same", x.told(x.stop(kind, 0, 0, 0), 3), 1);
            Edges.due("the earlier one isn't", x.told(0, 3), 0);
        }
    }

    private static void wanted() {
        Edges.words("WANTED by so many of ten cars (0 .. 10; 5 at first)");
        Edges.bounds(BAD, 0, 10, Towns::rich, (x, tenths) -> x.want(1, tenths));
        for (int kind = 0; kind < 6; kind++) {
            BetweenStops x = new BetweenStops();
            x.stop(kind, 0, 0, 0);
            Edges.due("kind " + kind + " at first", x.told(0, 4), 5);
            Edges.due("at first", x.want(0, 10), 5);
            Edges.due("the most", x.told(0, 4), 10);
            Edges.due("the most, was", x.want(0, 0), 10);
            Edges.due("the least", x.told(0, 4), 0);
        }
    }

    private static void patterns() {
        Edges.words("a PATTERN (0 all cars, 1 car 0 alone, 2 car 1 alone; 0 at first)");
        Edges.bounds(BAD, 0, 2, Towns::rich, (x, v) -> x.turns(0, v));
        BetweenStops x = new BetweenStops();
        x.stop(0, 0, 0, 0);
        Edges.due("all cars at first", x.told(0, 5), 3);
        Edges.due("0 at first", x.turns(0, 1), 0);
        Edges.due("car 0 alone", x.told(0, 5), 1);
        Edges.due("1 was", x.turns(0, 2), 1);
        Edges.due("car 1 alone", x.told(0, 5), 2);
        Edges.due("2 was", x.turns(0, 0), 2);
        Edges.due("all cars", x.told(0, 5), 3);
    }

    /** One stop: which cars, how many seconds, whether it is asked. */
    private static void is(String what, BetweenStops x, int p, int cars, int seconds, int isAsked) {
        Edges.due(what + ": cars", x.told(p, 5), cars);
        Edges.due(what + ": seconds", x.told(p, 2), seconds);
        Edges.due(what + ": asked", x.told(p, 6), isAsked);
    }

    private static BetweenStops one(int kind, int takes, int more, int wanted) {
        BetweenStops x = new BetweenStops();
        x.stop(kind, 20, takes, more);
        x.want(0, wanted);
        return x;
    }

    private static void plain() {
        Edges.words("KINDS: which cars it SERVES, how many SECONDS it costs a car, whether it is ASKED. 0 STOP: both; TAKES; no.");
        is("nothing", one(0, 0, 0, 0), 0, 3, 0, 0);
        is("the most, MORE does not matter, nor WANTED", one(0, 99, 60, 10), 0, 3, 99, 0);
        is("odd MORE does not matter", one(0, 99, 59, 0), 0, 3, 99, 0);
    }

    private static void asked() {
        Edges.words("1 ASKED (a STOP): a STOP's SECONDS times WANTED by 10 (cut); yes.");
        is("by none", one(1, 99, 60, 0), 0, 3, 0, 1);
        is("by all", one(1, 99, 60, 10), 0, 3, 99, 1);
        is("89.1 is cut", one(1, 99, 60, 9), 0, 3, 89, 1);
        is("0.9 is cut", one(1, 9, 0, 1), 0, 3, 0, 1);
        is("1 is not", one(1, 10, 0, 1), 0, 3, 1, 1);
        is("1.1 is cut", one(1, 11, 0, 1), 0, 3, 1, 1);
        is("no seconds", one(1, 0, 60, 10), 0, 3, 0, 1);
    }

    private static void turn() {
        Edges.words("2 TURN (a STOP): car (MORE modulo 2) alone.");
        is("MORE 0", one(2, 99, 0, 0), 0, 1, 99, 0);
        is("MORE 1", one(2, 99, 1, 0), 0, 2, 99, 0);
        is("MORE 2", one(2, 99, 2, 0), 0, 1, 99, 0);
        is("MORE 3", one(2, 99, 3, 0), 0, 2, 99, 0);
        is("MORE 59", one(2, 99, 59, 10), 0, 2, 99, 0);
        is("MORE 60", one(2, 0, 60, 10), 0, 1, 0, 0);
    }

    private static void shared() {
        Edges.words("3 SHARED (a STOP): MORE more SECONDS.");
        is("none more", one(3, 99, 0, 0), 0, 3, 99, 0);
        is("the most", one(3, 99, 60, 0), 0, 3, 159, 0);
        is("MORE alone", one(3, 0, 60, 10), 0, 3, 60, 0);
        is("nothing", one(3, 0, 0, 10), 0, 3, 0, 0);
    }

    private static void second() {
        Edges.words("4 SECOND (a TURN): just the car that a TURN does not; half the SECONDS (cut).");
        is("MORE 0", one(4, 99, 0, 0), 0, 2, 49, 0);
        is("MORE 1", one(4, 98, 1, 10), 0, 1, 49, 0);
        is("MORE 59", one(4, 1, 59, 5), 0, 1, 0, 0);
        is("MORE 60", one(4, 2, 60, 5), 0, 2, 1, 0);
        is("nothing", one(4, 0, 60, 5), 0, 2, 0, 0);
    }

    private static void tolds() {
        Edges.words("5 TOLD (an ASKED): MORE more SECONDS than an ASKED one.");
        is("by none, MORE all the same", one(5, 99, 60, 0), 0, 3, 60, 1);
        is("by all", one(5, 99, 60, 10), 0, 3, 159, 1);
        is("cut ahead of MORE", one(5, 99, 1, 9), 0, 3, 90, 1);
        is("none more", one(5, 99, 0, 9), 0, 3, 89, 1);
        is("nothing", one(5, 0, 0, 10), 0, 3, 0, 1);
    }

    private static void asAbove() {
        Edges.words("(Whatever isn't told is as of the KIND above.)");
        BetweenStops x = new BetweenStops();
        int[][] due = {{3, 0}, {3, 1}, {2, 0}, {3, 0}, {1, 0}, {3, 1}};
        for (int kind = 0; kind < 6; kind++) {
            x.stop(kind, 0, 20, 1);
            Edges.due("cars of kind " + kind, x.told(kind, 5), due[kind][0]);
            Edges.due("asked of kind " + kind, x.told(kind, 6), due[kind][1]);
        }
    }

    private static void whereCarsStop() {
        Edges.words("A car STOPS at one that is OPEN, SERVES it, and whose PATTERN lets it.");
        for (int closed = 0; closed < 2; closed++) {
            for (int more = 0; more < 2; more++) {
                for (int pattern = 0; pattern < 3; pattern++) {
                    BetweenStops x = new BetweenStops();
                    x.stop(2, 20, 50, more);
                    x.turns(0, pattern);
                    x.open(0, 1 - closed);
                    Due.textOf(x, "stay 0;late 0;ask 0;");
                    x.force(1);
                    boolean car0 = closed == 0 && more == 0 && pattern != 2;
                    boolean car1 = closed == 0 && more == 1 && pattern != 1;
                    Edges.due("car 0", x.bunch(0, 0), car0 ? 170 : 120);
                    Edges.due("car 1", x.bunch(1, 0), 300 + (car1 ? 170 : 120));
                    int cars = (more == 0 && pattern != 2 ? 1 : 0) + (more == 1 && pattern != 1 ? 2 : 0);
                    Edges.due("open or not does not matter to what it SERVES", x.told(0, 5), cars);
                }
            }
        }
    }

    private static void stop() {
        Edges.words("A STOP (KIND, CELL, TAKES, MORE): its number. BAD; FULL.");
        Edges.due("its number", Towns.rich().stop(0, 40, 99, 60), 6);
        Edges.due("several in one cell", Towns.rich().stop(0, 1, 1, 1), 6);
        Edges.refused("BAD KIND ahead of FULL", BAD, Towns::full, x -> x.stop(6, 0, 0, 0));
        Edges.refused("BAD CELL ahead of FULL", BAD, Towns::full, x -> x.stop(0, 41, 0, 0));
        Edges.refused("BAD TAKES ahead of FULL", BAD, Towns::full, x -> x.stop(0, 0, -1, 0));
        Edges.refused("BAD MORE ahead of FULL", BAD, Towns::full, x -> x.stop(0, 0, 0, 61));
        Edges.refused("all BAD", BAD, Towns::rich, x -> x.stop(-1, -1, -1, -1));
        Edges.due("a refused one takes no number", numberBehindARefusedOne(), 0);
    }

    private static int numberBehindARefusedOne() {
        BetweenStops x = new BetweenStops();
        x.stop(0, 0, 0, 61);
        return x.stop(0, 0, 0, 60);
    }

    private static void open() {
        Edges.words("A STOP is OPEN (1), or not (0): what it was. NONE; BAD.");
        Edges.outside(NONE, 0, 5, Towns::rich, (x, p) -> x.open(p, 0));
        Edges.bounds(BAD, 0, 1, Towns::rich, (x, is) -> x.open(5, is));
        Edges.refused("NONE ahead of BAD", NONE, Towns::rich, x -> x.open(6, 2));
        Edges.refused("NONE, as there is none", NONE, Towns::empty, x -> x.open(0, 1));
        Edges.unchanged("open, that is", Towns::rich, x -> x.open(0, 1));
        Edges.unchanged("not open, that isn't", Towns::rich, x -> x.open(2, 0));
        BetweenStops x = Towns.full();
        Edges.due("the last one", x.open(7, 0), 1);
        Edges.due("again", x.open(7, 0), 0);
        Edges.due("open again", x.open(7, 1), 0);
        Edges.due("and then", x.open(7, 1), 1);
    }

    private static void want() {
        Edges.words("WANTED of a STOP: what it was. NONE; BAD.");
        Edges.outside(NONE, 0, 5, Towns::rich, (x, p) -> x.want(p, 1));
        Edges.refused("NONE ahead of BAD", NONE, Towns::rich, x -> x.want(6, 11));
        Edges.refused("NONE, as there is none", NONE, Towns::empty, x -> x.want(0, 0));
        BetweenStops x = Towns.full();
        Edges.due("the last one", x.want(7, 10), 5);
        Edges.due("refused", x.want(7, 11), BAD);
        Edges.due("as it was", x.want(7, 0), 10);
        Edges.due("the others' as at first", x.want(6, 0), 5);
    }

    private static void turns() {
        Edges.words("PATTERN of a STOP: what it was. NONE; BAD.");
        Edges.outside(NONE, 0, 5, Towns::rich, (x, p) -> x.turns(p, 1));
        Edges.refused("NONE ahead of BAD", NONE, Towns::rich, x -> x.turns(-1, 3));
        Edges.refused("NONE, as there is none", NONE, Towns::empty, x -> x.turns(0, 0));
        BetweenStops x = Towns.full();
        Edges.due("the last one", x.turns(7, 2), 0);
        Edges.due("refused", x.turns(7, 3), BAD);
        Edges.due("as it was", x.turns(7, 0), 2);
        Edges.due("the others' as at first", x.turns(6, 0), 0);
    }

    private static void told() {
        Edges.words("Of a STOP what 0 KIND, 1 CELL, 2 SECONDS, 3 OPEN (1, 0), 4 WANTED, 5 cars (bits) that it SERVES and its PATTERN "
            + "lets, 6 whether it is ASKED (1, 0). -5: no such STOP; -7: what.");
        Edges.bounds(-5, 0, 5, Towns::rich, (x, p) -> x.told(p, 0));
        Edges.bounds(-7, 0, 6, Towns::rich, (x, what) -> x.told(5, what));
        Edges.refused("-5 ahead of -7", -5, Towns::rich, x -> x.told(6, 7));
        Edges.refused("-5, as there is none", -5, Towns::empty, x -> x.told(0, 0));
        int[][] due = {
            {0, 1, 20, 1, 5, 3, 0}, {1, 8, 14, 1, 7, 3, 1}, {2, 15, 22, 0, 5, 2, 0},
            {3, 22, 29, 1, 5, 1, 0}, {4, 29, 12, 0, 5, 1, 0}, {5, 36, 13, 1, 2, 3, 1}};
        BetweenStops x = Towns.rich();
        for (int p = 0; p < due.length; p++) {
            for (int what = 0; what < 7; what++) {
                Edges.due("told " + p + " " + what, x.told(p, what), due[p][what]);
            }
        }
        x.turns(2, 1);
        Edges.due("no car", x.told(2, 5), 0);
    }
}
