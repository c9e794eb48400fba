/** The edges of the terms of the tape, tokens, texts, faults, and of promises 16 to 18. */
public final class EdgesTextsTest {
    private static final int BAD = BetweenStops.BAD, FULL = BetweenStops.FULL;
    private static final String REST = ";late 0;ask 0;";

    private EdgesTextsTest() {
    }

    public static void main(String[] args) {
        tape();
        words();
        numbers();
        signs();
        blanks();
        text();
        either();
        both();
        denied();
        sums();
        terms();
        ones();
        names();
        faults();
        open();
        textNumbers();
        firstText();
        feed();
        texts();
        force();
        Due.end();
    }

    /** A text on a new tape; the place of its fault, or -1: it is one. */
    private static void fault(String bytes, int place) {
        BetweenStops x = new BetweenStops();
        int got = Due.textOf(x, bytes);
        Edges.due("text '" + bytes + "'", got, place < 0 ? 1 : -100 - place);
        Edges.due("the tape is empty behind '" + bytes + "'", x.count(5), 0);
        Edges.due("texts behind '" + bytes + "'", x.count(3), place < 0 ? 2 : 1);
    }

    private static void good(String bytes) {
        fault(bytes, -1);
    }

    private static String padded(int size) {
        StringBuilder bytes = new StringBuilder("stay 1" + REST);
        while (bytes.length() < size) {
            bytes.append(' ');
        }
        return bytes.toString();
    }

    private static BetweenStops fed(int size) {
        BetweenStops x = new BetweenStops();
        Due.feedAll(x, padded(size));
        return x;
    }

    private static void tape() {
        Edges.words("A TEXT is read from THE TAPE (160 bytes at most).");
        Edges.due("an empty tape", new BetweenStops().text(), -100);
        good(padded(159));
        good(padded(160));
        Edges.due("all 160", fed(160).count(5), 160);
        Edges.refused("a byte behind 160", FULL, () -> fed(160), x -> x.feed(' ', 1));
        Edges.due("a byte behind 159", fed(159).feed(' ', 1), 160);
        Edges.refused("two bytes behind 159", FULL, () -> fed(159), x -> x.feed(0x2020L, 2));
        Edges.due("eight bytes behind 152", fed(152).feed(0x2020202020202020L, 8), 160);
        Edges.refused("eight bytes behind 153", FULL, () -> fed(153), x -> x.feed(0x2020202020202020L, 8));
        // A fault in the last byte, and just behind it.
        fault(padded(159) + "?", 159);
        fault(padded(20).replace(";ask 0;", ";ask 0 ") + " ".repeat(140), 160);
    }

    private static void words() {
        Edges.words("TOKENS, each as long as can be: WORDS (as many letters a .. z as stand there)");
        good("stay cost;late many;ask sort;");
        good("stay1;late2;ask3;");
        good("stay(1)or(2);late-1;ask 1and 2;");
        fault("stay costcost" + REST, 5);
        fault("staycost" + REST, 0);
        fault("stay notcost" + REST, 5);
        fault("stay cos" + REST, 5);
        fault("stay Cost" + REST, 5);
        fault("stay `" + REST, 5);
        fault("stay {" + REST, 5);
        fault("stay 1`" + REST, 6);
        fault("stay 1{" + REST, 6);
        fault("stay a" + REST, 5);
        fault("stay acost" + REST, 5);
        fault("stay costz" + REST, 5);
        fault("stay z" + REST, 5);
        fault("s", 0);
        // A word that fills what is left of the tape.
        fault("stay " + "a".repeat(155), 5);
    }

    private static void numbers() {
        Edges.words("NUMBERS (as many digits as stand there; more than 4 are too long)");
        good("stay 0" + REST);
        good("stay 9999" + REST);
        good("stay 0000" + REST);
        fault("stay 00000" + REST, 5);
        fault("stay 10000" + REST, 5);
        fault("stay 1234 5" + REST, 10);
        fault("stay 1 00000" + REST, 7);
        fault("stay /" + REST, 5);
        fault("stay :" + REST, 5);
        fault("stay " + "9".repeat(155), 5);
        value("9999 - 9990", 9);
        value("0009", 9);
    }

    private static void signs() {
        Edges.words("SIGNS ( ) ; + - * < = ;");
        // Behind a number each byte is a digit more, a blank, what joins, an end, or the fault.
        for (int b = 0; b < 256; b++) {
            String bytes = "stay 1" + (char) b + ";late 0;ask 0;";
            boolean isSign = "+-*<=;".indexOf(b) >= 0;
            boolean isGood = b >= '0' && b <= '9' || b == ' ' || b == '\n';
            fault(bytes, isGood ? -1 : isSign ? 7 : 6);
        }
        good("stay (1)" + REST);
        good("stay 1+2-3*4<5" + REST);
        good("stay 1=2" + REST);
        fault("stay 1<=2" + REST, 7);
        fault("stay 1=<2" + REST, 7);
        fault("stay 1>2" + REST, 6);
    }

    private static void blanks() {
        Edges.words("blanks (32, 10) may stand between.");
        good(" \n stay\n\n1 ;\nlate 0;ask 0 \n;  ");
        for (int b : new int[] {0, 9, 11, 12, 13, 31, 33, 160, 255}) {
            fault("stay" + (char) b + "1" + REST, 4);
            fault((char) b + "stay 1" + REST, 0);
            fault("stay 1" + REST + (char) b, 20);
        }
        fault("st ay 1" + REST, 0);
        fault("stay 1 2" + REST, 7);
    }

    private static void text() {
        Edges.words("TEXT: stay E ; late E ; ask E ;");
        fault("", 0);
        fault(" ", 1);
        fault("stay", 4);
        fault("stay 1", 6);
        fault("stay 1;", 7);
        fault("stay 1;late", 11);
        fault("stay 1;late 0;", 14);
        fault("stay 1;late 0;ask", 17);
        fault("stay 1;late 0;ask 0", 19);
        good("stay 1;late 0;ask 0;");
        fault("stay 1;late 0;ask 0;;", 20);
        fault("stay 1;late 0;ask 0;stay 1;", 20);
        fault("stay 1;ask 0;late 0;", 7);
        fault("late 0;stay 1;ask 0;", 0);
        fault("stay;late 0;ask 0;", 4);
        fault("stay 1;late;ask 0;", 11);
        fault("stay 1;late 0;ask;", 17);
        fault("stay 1 late 0;ask 0;", 7);
    }

    private static void either() {
        Edges.words("E: AND { or AND }.");
        value("0 or 0", 0);
        value("0 or 2", 1);
        value("0 or 0 or 0 or 0 or 3", 1);
        fault("stay or 1" + REST, 5);
        fault("stay 1 or" + REST, 9);
        fault("stay 1 or or 1" + REST, 10);
    }

    private static void both() {
        Edges.words("AND: NOT { and NOT }.");
        value("1 and 0", 0);
        value("5 and 2", 1);
        value("1 and 1 and 1 and 1 and 0", 0);
        value("1 or 1 and 0", 1);
        value("0 and 1 or 1", 1);
        fault("stay and 1" + REST, 5);
        fault("stay 1 and" + REST, 10);
        fault("stay 1 and and 1" + REST, 11);
        fault("stay 1 and or 1" + REST, 11);
    }

    private static void denied() {
        Edges.words("NOT: not NOT, or SUM, perhaps < or = and a SUM.");
        value("not 0", 1);
        value("not 9", 0);
        value("not not 9", 1);
        value("not 2 < 1", 1);
        value("not 1 < 2", 0);
        value("1 < 2", 1);
        value("2 < 2", 0);
        value("2 = 2", 1);
        value("2 = 3", 0);
        value("1 + 1 = 4 - 2", 1);
        value("0 or not 0 and 1", 1);
        fault("stay 1 < 2 < 3" + REST, 11);
        fault("stay 1 = 2 = 3" + REST, 11);
        fault("stay not 1 < 2 = 3" + REST, 15);
        fault("stay 1 < not 2" + REST, 9);
        fault("stay 1 + not 2" + REST, 9);
        fault("stay - not 2" + REST, 7);
        fault("stay < 1" + REST, 5);
        fault("stay 1 <" + REST, 8);
        fault("stay not" + REST, 8);
        fault("stay not < 1" + REST, 9);
    }

    private static void sums() {
        Edges.words("SUM: TERM { + or - TERM }.");
        value("9 - 3 - 2", 4);
        value("9 - 3 + 2", 8);
        value("1 + 1 + 1 + 1 + 1 + 1", 6);
        value("1 - -1", 2);
        fault("stay + 1" + REST, 5);
        fault("stay 1 +" + REST, 8);
        fault("stay 1 + + 1" + REST, 9);
        fault("stay 1 -" + REST, 8);
    }

    private static void terms() {
        Edges.words("TERM: ONE { * ONE }.");
        value("2 * 3 + 1", 7);
        value("1 + 2 * 3", 7);
        value("2 * 2 * 2", 8);
        value("-2 * -3", 6);
        value("2 * -3 + 9", 3);
        fault("stay * 1" + REST, 5);
        fault("stay 1 *" + REST, 8);
        fault("stay 1 * * 1" + REST, 9);
        fault("stay 1 * not 1" + REST, 9);
    }

    private static void ones() {
        Edges.words("ONE: a NUMBER, a NAME, - ONE, ( E ).");
        value("7", 7);
        value("(7)", 7);
        value("--7", 7);
        value("-(1 - 8)", 7);
        value("(0 or 0) + 7", 7);
        value("(not 0) + (1 < 2) + 5", 7);
        value("10 * many + sort", 0);
        fault("stay ()" + REST, 6);
        fault("stay (1" + REST, 7);
        fault("stay 1)" + REST, 6);
        fault("stay (1))" + REST, 8);
        fault("stay )" + REST, 5);
        fault("stay (1;late 0)" + REST, 7);
        fault("stay -" + REST, 6);
        fault("stay - + 1" + REST, 7);
        fault("stay 1 (2)" + REST, 7);
        fault("stay cost many" + REST, 10);
    }

    private static void names() {
        Edges.words("NAMES: cost walk wait ride many sort.");
        for (String name : new String[] {"cost", "walk", "wait", "ride", "many", "sort"}) {
            good("stay " + name + ";late " + name + ";ask " + name + ";");
            fault("stay " + name + "s" + REST, 5);
            fault("stay " + name.substring(1) + REST, 5);
            fault(name + " 1" + REST, 0);
        }
        for (String key : new String[] {"stay", "late", "ask"}) {
            fault("stay " + key + REST, 5);
            fault("stay 1 + " + key + REST, 9);
            fault("stay 1 " + key + REST, 7);
        }
        value("cost + walk + wait + ride + many + sort", 0);
    }

    /** What an E comes to, as ask() tells it of stop 0: it is put so that it is 0 .. 10. */
    private static void value(String e, int want) {
        BetweenStops x = new BetweenStops();
        x.stop(1, 0, 0, 0);
        x.force(Due.textOf(x, "stay 0;late 0;ask " + e + ";"));
        Edges.due("value of " + e, x.asks(0), want);
    }

    private static void faults() {
        Edges.words("FAULT: the place of the first byte of the first TOKEN that can't stand there (the text's size, if it ends too "
            + "early), also of a byte that begins none, of a WORD that is neither KEY nor NAME, a NUMBER that is too long, a ( , a "
            + "not, a - ahead of a ONE while 5 of these are open");
        fault("?", 0);
        fault("stay 1;late 0;ask 0;?", 20);
        fault("stay 1 + cost)" + REST, 13);
        // The blanks ahead of it are none of it; those at an early end are.
        fault("stay   \n )", 9);
        fault("stay  \n", 7);
        fault("stay 1;late 0;ask 0 \n", 21);
        // The first of several.
        fault("stay ) ? word 99999", 5);
        fault("stay 1 word ? 99999", 7);
        fault("stay 1 99999 word ?", 7);
        fault("stay 1 ? 99999 word", 7);
        // What can't be a token can't be one, wherever it stands.
        fault("word", 0);
        fault("99999", 0);
        fault("9", 0);
        fault("(", 0);
        fault("stay ((((((", 10);
        fault("stay not not not not not not", 25);
        fault("stay ------", 10);
        fault("stay (((((", 10);
        fault("stay (((((1", 11);
        fault("stay (((((1)))))", 16);
        fault("stay -----", 10);
    }

    private static void open() {
        Edges.words("(a ( till its ) , not and - till what they belong to ends).");
        good("stay (((((1)))))" + REST);
        fault("stay ((((((1))))))" + REST, 10);
        good("stay not not not not not 1" + REST);
        fault("stay not not not not not not 1" + REST, 25);
        good("stay -----1" + REST);
        fault("stay ------1" + REST, 10);
        // Mixed ones count together.
        good("stay not (not (-1))" + REST);
        fault("stay not (not (-(1)))" + REST, 16);
        fault("stay not (not (--1))" + REST, 16);
        fault("stay not (not ((not 1)))" + REST, 16);
        // Ended ones count no more.
        good("stay (((((1))))) + (((((1)))))" + REST);
        good("stay (((((1)))))*-----1-(((((1)))))" + REST);
        good("stay -----1 < -----1" + REST);
        good("stay not not not not not 1 or not not not not not 1" + REST);
        good("stay not not not not not 1 and (((((1)))))" + REST);
        good("stay not not not not (1) < (1)" + REST);
        // A not is open till its whole NOT ends, a - till its ONE does.
        fault("stay not not not not not 1 < (1)" + REST, 29);
        fault("stay not not not not not 1 < -1" + REST, 29);
        fault("stay not not not not not 1 + (1)" + REST, 29);
        good("stay not not not not not 1 - 1" + REST);
        good("stay ----(1) + -(1)" + REST);
        good("stay --(-(1) + -(1))" + REST);
        fault("stay ---(-(1) + 1)" + REST, 10);
        fault("stay ---((1) + -(1))" + REST, 16);
        good("stay ((((1) + (1)) + (1)) + ((1)))" + REST);
        good("stay ((((-1))))" + REST);
        fault("stay (((((-1)))))" + REST, 10);
        good("stay ((((not 1))))" + REST);
        fault("stay (((((not 1)))))" + REST, 10);
        good("stay (((((1 - 1)))))" + REST);
        // In the last part as in the first.
        good("stay (((((1)))));late (((((1)))));ask (((((1)))));");
        fault("stay 1;late 0;ask ((((((1))))));", 23);
    }

    private static BetweenStops withTexts(int last) {
        BetweenStops x = new BetweenStops();
        for (int t = 1; t <= last; t++) {
            Due.textOf(x, "stay " + t + REST);
        }
        return x;
    }

    private static void textNumbers() {
        Edges.words("TEXTS are numbered from 0 on, 6 at most;");
        for (int t = 1; t <= 5; t++) {
            Edges.due("the next number", Due.textOf(withTexts(t - 1), "stay 1" + REST), t);
            Edges.due("how many", withTexts(t).count(3), t + 1);
        }
        Edges.due("a seventh", Due.textOf(withTexts(5), "stay 1" + REST), FULL);
        Edges.due("six as before", withTexts(6).count(3), 6);
        Edges.due("a fault takes no number", Due.textOf(withTexts(4), "stay"), -104);
        BetweenStops x = withTexts(4);
        Due.textOf(x, "stay");
        Edges.due("so there is one left", Due.textOf(x, "stay 1" + REST), 5);
    }

    private static void firstText() {
        Edges.words("TEXT 0, at first, and THE LAW: stay 2000 < cost ; late many * 2 ; ask many ;");
        BetweenStops x = new BetweenStops();
        Edges.due("it is the law", x.count(4), 0);
        Edges.due("it is the only one", x.count(3), 1);
        x.sort(0, 0, 25);
        x.trip(0, 40, 1, 0);
        Edges.due("2000 is not more than 2000", x.takes(0, 0), 2000);
        Edges.due("who stays", x.homes(), 0);
        x.road(40, 1);
        x.sort(0, 1, 1);
        Edges.due("2002 is", x.takes(0, 0), 2002);
        Edges.due("who stays then", x.homes(), 1);
        BetweenStops y = Towns.ends(1);
        y.stop(1, 20, 0, 0);
        y.open(1, 0);
        y.trip(0, 20, 7, 0);
        Edges.due("ask many", y.asks(2), 7);
        // At 0 one second since the car ahead: 7 people, 14 seconds. At 20: 74 + 1 seconds, 7 times 75 people, 999 at most.
        Edges.due("late many * 2", y.bunch(0, 0), 14 + 60 + 999 + 60);
    }

    private static void feed() {
        Edges.words("The n lowest bytes of w, the highest first, come behind THE TAPE's: how many it has. BAD: n not 1 .. 8; FULL.");
        Edges.bounds(BAD, 1, 8, Towns::rich, (x, n) -> x.feed(0x2020202020202020L, n));
        Edges.due("one byte", Towns.rich().feed(' ', 1), 19);
        Edges.due("eight bytes", Towns.rich().feed(-1L, 8), 26);
        Edges.refused("BAD ahead of FULL", BAD, Towns::full, x -> x.feed(0, 0));
        Edges.refused("BAD ahead of FULL, above", BAD, Towns::full, x -> x.feed(0, 9));
        Edges.refused("FULL", FULL, Towns::full, x -> x.feed(' ', 1));
        Edges.refused("FULL, of eight", FULL, Towns::full, x -> x.feed(0x2020202020202020L, 8));
        // What stands above the lowest bytes does not matter.
        BetweenStops x = new BetweenStops();
        x.feed(0xffffffffffff0000L | 's' << 8 | 't', 2);
        x.feed(0x7f00000000000000L | 'a' << 16 | 'y' << 8 | ' ', 3);
        x.feed(Long.MIN_VALUE | '7', 1);
        Due.feedAll(x, REST);
        Edges.due("byte by byte", x.text(), 1);
        for (int b : new int[] {0, 127, 128, 255}) {
            BetweenStops y = new BetweenStops();
            y.feed(b, 1);
            Edges.due("a byte that begins none: " + b, y.text(), -100);
        }
        BetweenStops highest = new BetweenStops();
        highest.feed(0x8073746179203120L, 8);
        Edges.due("the eighth byte from below comes first", highest.text(), -100);
        BetweenStops lowest = new BetweenStops();
        lowest.feed(0x7374617920312080L, 8);
        Edges.due("the lowest byte comes last", lowest.text(), -107);
    }

    private static void texts() {
        Edges.words("THE TAPE, which is empty then (by a FAULT, too), is a TEXT: its number; -100 less the place of its FAULT. FULL "
            + "(ahead of the FAULT; then THE TAPE stays).");
        BetweenStops x = new BetweenStops();
        Edges.due("an empty tape: a fault at 0", x.text(), -100);
        Edges.due("a text", Due.textOf(x, "stay 1" + REST), 1);
        Edges.due("empty then", x.count(5), 0);
        Edges.due("what was there is gone", x.text(), -100);
        Edges.due("a fault", Due.textOf(x, "stay 1;late"), -111);
        Edges.due("empty then, too", x.count(5), 0);
        Edges.refused("FULL of a text with a fault", FULL, Towns::full, y -> y.text());
        Edges.refused("FULL of an empty tape", FULL, () -> withTexts(5), y -> y.text());
        Edges.due("by the last place", Due.textOf(new BetweenStops(), " ".repeat(159) + "?"), -259);
        Edges.due("by an end behind the last place", Due.textOf(new BetweenStops(), " ".repeat(160)), -260);
    }

    private static void force() {
        Edges.words("A TEXT is THE LAW: which was. BAD.");
        Edges.bounds(BAD, 0, 0, Towns::empty, (x, t) -> x.force(t));
        Edges.bounds(BAD, 0, 1, Towns::rich, (x, t) -> x.force(t));
        Edges.bounds(BAD, 0, 5, Towns::full, (x, t) -> x.force(t));
        Edges.due("which was, at first", Towns.full().force(5), 0);
        BetweenStops x = Towns.full();
        x.force(5);
        Edges.due("refused", x.force(6), BAD);
        Edges.due("the same again", x.force(5), 5);
        Edges.due("another", x.force(0), 5);
        BetweenStops faulty = withTexts(1);
        Due.textOf(faulty, "stay 1" + REST + "?");
        Edges.due("a text with a fault is none", faulty.force(2), BAD);
        faulty.trip(7, 7, 1, 0);
        faulty.force(1);
        Edges.due("nor does a fault change the law", faulty.homes(), 1);
    }
}
