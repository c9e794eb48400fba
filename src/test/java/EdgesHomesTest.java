/** The edges of what a text says, of rounds, and of promises 31 to 35. */
public final class EdgesHomesTest {
    private static final int BAD = BetweenStops.BAD, STATE = BetweenStops.STATE;
    private static final String REST = ";late 0;ask 0;";
    private static final String MOST = "(2048 * 1024 * 1024 - 1)";
    private static final String LEAST = "(2048 * 1024 * 1024)";

    private EdgesHomesTest() {
    }

    public static void main(String[] args) {
        wraps();
        truths();
        stay();
        late();
        ask();
        atFirst();
        cut();
        bounds();
        homes();
        round();
        twenty();
        rest();
        asks();
        asked();
        Due.end();
    }

    private static void law(BetweenStops x, String text) {
        int t = Due.textOf(x, text);
        Edges.due("force '" + text + "'", x.force(t) >= 0 && t > 0 ? 1 : 0, 1);
    }

    /** What an E comes to, as ask tells it: 0 .. 10. */
    private static void value(String e, int want) {
        BetweenStops x = new BetweenStops();
        x.stop(1, 0, 0, 0);
        law(x, "stay 0;late 0;ask " + e + ";");
        Edges.due("value of " + e, x.asks(0), want);
    }

    private static void wraps() {
        Edges.words("An E is an int (32 bits, wrapping)");
        value(LEAST + " < 0", 1);
        value("0 < " + MOST, 1);
        value(MOST + " + 1 = " + LEAST, 1);
        value(LEAST + " - 1 = " + MOST, 1);
        value("-" + LEAST + " = " + LEAST, 1);
        value("-" + MOST + " - 1 = " + LEAST, 1);
        value(LEAST + " * -1 = " + LEAST, 1);
        value(LEAST + " * 2", 0);
        value(LEAST + " + " + LEAST, 0);
        value(MOST + " * 2", 0);
        value(MOST + " * 2 + 9", 7);
        value("4096 * 1024 * 1024", 0);
        value("4096 * 1024 * 1024 + 9", 9);
        value("9999 * 9999 * 9999 = -(1027 * 1000 * 1000 + 349 * 1000 + 969)", 1);
        // To be less is told of the numbers, not of what is left as one is taken from the other.
        value(LEAST + " < " + MOST, 1);
        value(MOST + " < " + LEAST, 0);
        value("0 - 9 < " + MOST, 1);
        value(MOST + " < 0 - 9", 0);
        value(LEAST, 0);
        value(MOST, 10);
    }

    private static void truths() {
        Edges.words("of or, and, not, <, = 1 or 0 (what is not 0 is true).");
        value("(7 or 0) + (0 or 7) + (7 or 7) + (0 or 0)", 3);
        value("(7 and 0) + (0 and 7) + (7 and 8) + (0 and 0)", 1);
        value("(not 7) + (not 0) + (not not 7)", 2);
        value("(1 < 2) + (2 < 1) + (2 < 2)", 1);
        value("(1 = 2) + (2 = 1) + (2 = 2)", 1);
        value("(0 - 1 or 0) + (0 - 1 and " + LEAST + ") + (not -1)", 2);
        value("not (4096 * 1024 * 1024)", 1);
        value("4096 * 1024 * 1024 or 0", 0);
    }

    private static void stays(String stay, int want) {
        BetweenStops x = Towns.ends(20);
        x.stop(0, 20, 7, 0);
        x.trip(1, 40, 5, 0);
        x.trip(3, 4, 6, 1);
        x.trip(40, 0, 5, 2);
        law(x, "stay " + stay + REST);
        Edges.due("stay " + stay, x.homes(), want);
    }

    private static void stay() {
        Edges.words("stay of a TRIP (its people stay HOME, if it isn't 0): cost, walk, wait, ride of its best way; many; sort.");
        stays("0", 0);
        stays("1", 7);
        stays("2", 7);
        stays("-1", 7);
        stays(LEAST, 7);
        stays(LEAST + " * 2", 0);
        stays("cost = 20 + 20 + 127", 1);
        stays("cost = 45", 2);
        stays("cost = 30 + 127", 4);
        stays("walk = 10", 1);
        stays("walk = 15", 2);
        stays("walk = 0", 4);
        stays("wait = 10", 5);
        stays("wait = 0", 2);
        stays("ride = 127", 5);
        stays("ride = 0", 2);
        stays("many = 5", 5);
        stays("many = 6", 2);
        stays("sort = 0", 1);
        stays("sort = 1", 2);
        stays("sort = 2", 4);
    }

    private static void lates(String late, int want) {
        BetweenStops x = new BetweenStops();
        x.stop(0, 20, 0, 0);
        law(x, "stay 0;late " + late + ";ask 0;");
        Edges.due("late " + late, x.bunch(0, 0), 120 + want);
    }

    private static void late() {
        Edges.words("late (0 .. 999, else the bound): as of BUNCHING.");
        lates("-1", 0);
        lates("0", 0);
        lates("1", 1);
        lates("998", 998);
        lates("999", 999);
        lates("1000", 999);
        lates(LEAST, 0);
        lates(MOST, 999);
        lates(MOST + " + 1", 0);
        lates(LEAST + " - 1", 999);
    }

    private static void ask() {
        Edges.words("ask (0 .. 10, else the bound) of an ASKED STOP: many: how many get in or out there; sort: its number; the others 0.");
        value("-1", 0);
        value("0", 0);
        value("1", 1);
        value("9", 9);
        value("10", 10);
        value("11", 10);
        value(LEAST, 0);
        value(MOST, 10);
        value(MOST + " + 1", 0);
        value(LEAST + " - 1", 10);
        value("not (cost or walk or wait or ride or many or sort)", 1);
        for (int kind : new int[] {1, 5}) {
            BetweenStops x = new BetweenStops();
            x.car(0, 1);
            for (int p = 0; p < 8; p++) {
                x.stop(kind, p < 4 ? 0 : 40, 0, 0);
            }
            x.trip(0, 40, 9, 2);
            Edges.due("first law, who get in", x.asks(0), 9);
            Edges.due("first law, who get out", x.asks(4), 9);
            Edges.due("first law, nobody", x.asks(7), 0);
            law(x, "stay 0;late 0;ask sort;");
            for (int p = 0; p < 8; p++) {
                Edges.due("its number", x.asks(p), p);
            }
            law(x, "stay 0;late 0;ask cost + walk + wait + ride;");
            Edges.due("the others", x.asks(4), 0);
            law(x, "stay 0;late 0;ask many - 8;");
            Edges.due("nine less eight", x.asks(4), 1);
            Edges.due("none less eight", x.asks(5), 0);
        }
    }

    /** All ride whatever the wait is, and wait EVERY: just car 0 goes. */
    private static BetweenStops riders(int every, String stay, int... many) {
        BetweenStops x = Towns.ends(every);
        x.turns(0, 1);
        x.sort(0, 3, 0);
        for (int n : many) {
            x.trip(0, 40, n, 0);
        }
        law(x, "stay " + stay + REST);
        return x;
    }

    private static void goes(BetweenStops x, int... want) {
        for (int n = 0; n < want.length; n++) {
            Edges.due("round " + n, x.round(n), want[n]);
        }
    }

    private static void atFirst() {
        Edges.words("ROUNDS: at first nobody stays HOME. Behind each round those stay HOME that do by stay, if EVERY is as it is times all "
            + "people by those who did not stay HOME behind the one ahead (1 at least)");
        goes(riders(10, "1", 99), 0, 1, 1);
        goes(riders(10, "0", 99), 0, 0, 0);
        // Nobody goes: by 1, EVERY is 990.
        goes(riders(10, "wait = 10", 99), 0, 1, 0, 1, 0);
        goes(riders(10, "wait = 10 or wait = 990", 99), 0, 1, 1, 1);
        goes(riders(10, "wait = 10 or wait = 989", 99), 0, 1, 0, 1);
        goes(riders(10, "wait = 10 or wait = 991", 99), 0, 1, 0, 1);
        // One goes: by 1 as well.
        goes(riders(10, "many = 9 or wait = 100", 1, 9), 0, 2, 3, 3);
        // As it is, not as it was behind the round ahead.
        goes(riders(10, "many = 5 or wait = 33", 5, 6), 0, 1, 1, 1);
        goes(riders(10, "many = 5 and wait < 20 or many = 6 and wait = 18", 5, 6), 0, 1, 3, 0, 1);
        Edges.unchanged("round", Towns::rich, x -> x.round(20));
        Edges.unchanged("rest", Towns::rich, x -> x.rest(0));
    }

    private static void cut() {
        Edges.words("cut (1 .. 3600, else the bound).");
        // 10 * 3 / 2 is 15; 1 * 3 / 2 is 1; 3 * 3 / 2 is 4.
        goes(riders(10, "many = 1 and (wait = 10 or wait = 15)", 1, 2), 0, 1, 1);
        goes(riders(1, "many = 1 and wait = 1", 1, 2), 0, 1, 1);
        goes(riders(3, "many = 1 and (wait = 3 or wait = 4)", 1, 2), 0, 1, 1);
        goes(riders(3, "many = 1 and wait = 3", 1, 2), 0, 1, 0);
    }

    private static void bounds() {
        Edges.words("(1 .. 3600, else the bound)");
        goes(riders(40, "wait = 40 or wait = 3600", 89), 0, 1, 0);
        goes(riders(40, "wait = 40 or wait = 3600", 90), 0, 1, 1);
        goes(riders(40, "wait = 40 or wait = 3600", 91), 0, 1, 1);
        goes(riders(3600, "wait = 3600", 99, 99, 99, 99, 99, 99, 99, 99), 0, 255, 255);
        goes(riders(3600, "many = 1 and wait = 3600", 1, 99), 0, 1, 1);
        goes(riders(1, "wait = 1", 1), 0, 1, 1);
        goes(riders(1, "wait = 1", 2), 0, 1, 0);
        // Nobody goes at all, and nobody's EVERY is below 1.
        goes(riders(1, "1"), 0, 0, 0);
    }

    private static void homes() {
        Edges.words("TRIPS (bits) whose people stay HOME by stay as it is now.");
        Edges.unchanged("homes", Towns::rich, x -> x.homes());
        Edges.due("no trips", Towns.empty().homes(), 0);
        BetweenStops x = new BetweenStops();
        law(x, "stay many < 99" + REST);
        int homes = 0;
        for (int i = 0; i < 8; i++) {
            x.trip(i, i, i % 2 == 0 ? 98 : 99, i % 3);
            homes |= i % 2 == 0 ? 1 << i : 0;
            Edges.due("of " + (i + 1), x.homes(), homes);
        }
        law(x, "stay 1" + REST);
        Edges.due("all eight", x.homes(), 255);
        x.force(0);
        Edges.due("by the law that is forced", x.homes(), 0);
        BetweenStops now = riders(10, "wait = 10", 99);
        Edges.due("as it is now", now.homes(), 1);
        now.car(0, 11);
        Edges.due("as it is then", now.homes(), 0);
    }

    private static void round() {
        Edges.words("ROUNDS: those who stay HOME behind so many (0 .. 20). BAD.");
        Edges.bounds(BAD, 0, 20, Towns::rich, (x, n) -> x.round(n));
        Edges.outside(BAD, 0, 20, Towns::empty, (x, n) -> x.round(n));
        Edges.due("nobody behind none", riders(10, "1", 5).round(0), 0);
        Edges.due("the last one", riders(10, "wait = 10", 99).round(20), 0);
        Edges.due("the last but one", riders(10, "wait = 10", 99).round(19), 1);
        Edges.due("no trips", Towns.empty().round(20), 0);
    }

    private static void rests(BetweenStops x, int... want) {
        for (int what = 0; what < 3; what++) {
            Edges.due("rest " + what, x.rest(what), want[what]);
        }
    }

    /** Who stays is as good as drawn by the wait. */
    private static BetweenStops drawnRounds(int factor) {
        BetweenStops x = new BetweenStops();
        x.stop(0, 1, 20, 0);
        x.stop(0, 38, 20, 0);
        x.car(0, 100);
        x.sort(0, 3, 0);
        for (int many : new int[] {1, 2, 4, 8, 16, 32, 64, 99}) {
            x.trip(1, 38, many, 0);
        }
        law(x, "stay wait*many*" + factor + "*9973*9973<0" + REST);
        return x;
    }

    private static void twenty() {
        Edges.words("It COMES AGAIN in the first round behind which the same TRIPS stay as behind one ahead of it, or at first (20 rounds "
            + "are looked at).");
        rests(riders(10, "0", 9), 0, 0, 1);
        rests(riders(10, "1", 9), 1, 1, 1);
        rests(riders(10, "wait = 10", 9), 0, 0, 2);
        rests(riders(10, "many = 9 or wait = 100", 1, 9), 3, 2, 1);
        // Again behind round 20 as behind round 8; behind round 21 as at first.
        rests(drawnRounds(46), 225, 8, 12);
        rests(drawnRounds(117), STATE, STATE, STATE);
    }

    private static void rest() {
        Edges.words("As it COMES AGAIN: what 0 those who stay HOME then, 1 behind how many rounds it was so first, 2 behind how many more "
            + "it is so again. BAD; STATE: not in 20 rounds.");
        Edges.bounds(BAD, 0, 2, Towns::rich, (x, what) -> x.rest(what));
        Edges.outside(BAD, 0, 2, Towns::empty, (x, what) -> x.rest(what));
        rests(Towns.empty(), 0, 0, 1);
        Edges.due("BAD ahead of STATE", drawnRounds(117).rest(3), BAD);
        Edges.due("BAD ahead of STATE, below", drawnRounds(117).rest(-1), BAD);
        Edges.refused("STATE", STATE, () -> drawnRounds(117), x -> x.rest(2));
    }

    private static void asks() {
        Edges.words("What ask says of a STOP that is ASKED; WANTED of another one. -5: no such STOP.");
        Edges.bounds(-5, 0, 5, Towns::rich, (x, p) -> x.asks(p));
        Edges.refused("no stops", -5, Towns::empty, x -> x.asks(0));
        Edges.unchanged("asks", Towns::rich, x -> x.asks(1));
        BetweenStops x = new BetweenStops();
        for (int kind = 0; kind < 6; kind++) {
            x.stop(kind, 0, 0, 0);
            x.want(kind, 10 - kind);
        }
        law(x, "stay 0;late 0;ask 3;");
        for (int kind = 0; kind < 6; kind++) {
            Edges.due("of kind " + kind, x.asks(kind), kind == 1 || kind == 5 ? 3 : 10 - kind);
            x.open(kind, 0);
            Edges.due("of kind " + kind + ", not open", x.asks(kind), kind == 1 || kind == 5 ? 3 : 10 - kind);
        }
    }

    private static void asked() {
        Edges.words("All STOPS are WANTED truly as asks() tells now: of how many it was otherwise.");
        Edges.due("no stops", Towns.empty().asked(), 0);
        BetweenStops x = new BetweenStops();
        for (int p = 0; p < 8; p++) {
            x.stop(1, 40, 0, 0);
        }
        Edges.due("all eight", x.asked(), 8);
        Edges.due("none again", x.asked(), 0);
        for (int p = 0; p < 8; p++) {
            Edges.due("WANTED " + p, x.want(p, 0), 0);
        }
        BetweenStops some = new BetweenStops();
        for (int kind = 0; kind < 6; kind++) {
            some.stop(kind, 0, 0, 0);
            some.want(kind, 7);
        }
        law(some, "stay 0;late 0;ask 7 + (sort = 5);");
        Edges.due("the last one alone", some.asked(), 1);
        for (int kind = 0; kind < 6; kind++) {
            Edges.due("WANTED of kind " + kind, some.told(kind, 4), kind == 5 ? 8 : 7);
        }
        BetweenStops bound = new BetweenStops();
        bound.stop(1, 0, 0, 0);
        bound.want(0, 10);
        law(bound, "stay 0;late 0;ask 99;");
        Edges.due("99 is 10, as it was", bound.asked(), 0);
        law(bound, "stay 0;late 0;ask -99;");
        Edges.due("-99 is 0", bound.asked(), 1);
        Edges.due("then", bound.told(0, 4), 0);
        Edges.due("OPEN stays", bound.told(0, 3), 1);
    }
}
