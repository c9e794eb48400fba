/** Promises 16 to 18: the tape, texts, the law. */
public final class LawTest {
    private static final String REST = ";late 0;ask 0;";

    private LawTest() {
    }

    public static void main(String[] args) {
        feed();
        textNumbers();
        faults();
        depth();
        values();
        force();
        Due.end();
    }

    private static void feed() {
        BetweenStops x = new BetweenStops();
        Due.due("feed none", x.feed(0, 0), BetweenStops.BAD);
        Due.due("feed below", x.feed(0, -1), BetweenStops.BAD);
        Due.due("feed 9", x.feed(0, 9), BetweenStops.BAD);
        for (int i = 1; i <= 19; i++) {
            Due.due("feed", x.feed(-1L, 8), 8 * i);
        }
        Due.due("feed 7 more", x.feed(0, 7), 159);
        Due.due("feed past the end", x.feed(0, 2), BetweenStops.FULL);
        Due.due("feed 9 past the end", x.feed(0, 9), BetweenStops.BAD);
        Due.due("as it was", x.count(5), 159);
        Due.due("the last byte", x.feed(0, 1), 160);
        Due.due("one more", x.feed(0, 1), BetweenStops.FULL);
        Due.due("a byte that begins none", x.text(), -100);
        Due.due("empty then", x.count(5), 0);
        Due.due("a long word", Due.textOf(x, "stayyyyyyyyyyyyy99999"), -100);
        Due.due("what was on the tape is gone", Due.textOf(x, "stay"), -104);
        Due.due("a long number", Due.textOf(x, "stay 000000000000"), -105);
        Due.due("and gone", Due.textOf(x, "stay 1234"), -109);
        // The lowest bytes, the highest of them first: "stay" of a longer number, then the rest.
        x.feed(0x1122334473746179L, 4);
        Due.feedAll(x, " 1" + REST);
        Due.due("bytes in their order", x.text(), 1);
    }

    private static void textNumbers() {
        BetweenStops x = new BetweenStops();
        for (int t = 1; t <= 5; t++) {
            Due.due("text " + t, Due.textOf(x, "stay " + t + REST), t);
            Due.due("texts", x.count(3), t + 1);
            Due.due("the tape is empty", x.count(5), 0);
        }
        Due.due("a seventh text", Due.textOf(x, "stay 1" + REST), BetweenStops.FULL);
        Due.due("the tape stays", x.count(5), 6 + REST.length());
        Due.due("again", x.text(), BetweenStops.FULL);
        Due.due("FULL ahead of the fault", Due.textOf(x, "?"), BetweenStops.FULL);
        Due.due("the tape stays", x.count(5), 7 + REST.length());
    }

    private static void fault(String bytes, int place) {
        BetweenStops x = new BetweenStops();
        Due.due("fault of '" + bytes + "'", Due.textOf(x, bytes), -100 - place);
        Due.due("empty behind '" + bytes + "'", x.count(5), 0);
        Due.due("no text of '" + bytes + "'", x.count(3), 1);
    }

    private static void good(String bytes) {
        Due.due("text of '" + bytes + "'", Due.textOf(new BetweenStops(), bytes), 1);
    }

    private static void faults() {
        fault("", 0);
        fault("  \n", 3);
        fault("late 0;", 0);
        fault("stay", 4);
        fault("stay ", 5);
        fault("stay ;", 5);
        fault("stay 1", 6);
        fault("stay 1;ask 0;", 7);
        fault("stay 1;late 0;ask 0", 19);
        fault("stay 1;late 0;ask 0 ;1", 21);
        fault("stay 1;late 0;ask 0;stay", 20);
        fault("stay 1 2;", 7);
        fault("stay cost cost", 10);
        fault("stay 1 + ;", 9);
        fault("stay 1 < 2 < 3", 11);
        fault("stay 1 = 2 < 3", 11);
        fault("stay 1 < not 2", 9);
        fault("stay 1 + not 2", 9);
        fault("stay -not 2", 6);
        fault("stay +1", 5);
        fault("stay (1", 7);
        fault("stay (1;", 7);
        fault("stay 1)", 6);
        fault("stay ()", 6);
        fault("stay 1 or", 9);
        fault("stay or", 5);
        fault("stay 1 and or", 11);
        fault("stay not", 8);
        fault("stay stay", 5);
        fault("stay costs;", 5);
        fault("staycost", 0);
        fault("stay Cost", 5);
        fault("stay 12345;", 5);
        fault("stay 00001;", 5);
        fault("stay 1\t;", 6);
        fault("stay 1;late @", 12);
        fault("stay 1 + 2 > 1", 11);
        fault("stay 1;late 0;ask 0;\u00ff", 20);
        fault("stay 1;late 0;ask 0;\0", 20);
        // An earlier token that can't stand comes ahead of a later byte that begins none.
        fault("stay 1 2 ? 12345", 7);
        good("stay 1;late 0;ask 0;");
        good("\n stay\n1\n;late 0 ; ask 0 ; \n");
        good("stay 9999;late 0000;ask 0;");
        good("stay 2*cost;late(1);ask(0);");
        good("stay not 1 < 2 and not not 3 or(4=5)=0;late--1;ask-1-1;");
        good("stay(1<2)<3;late 0;ask 0;");
        fault("stay 2cost;", 6);
        fault("xtay 1;", 0);
        fault("stays 1;", 0);
        fault("stay bost;", 5);
        fault("stay zost;", 5);
        fault("stay costz;", 5);
        fault("stay 1;rate 0;", 7);
        fault("stay 1;late 0;bsk 0;", 14);
        fault("stay 1 ar 2;", 7);
        fault("stay 1 end 2;", 7);
        fault("stay nott 2;", 5);
        fault("stay 1 stay 2;", 7);
        fault("stay 1 late 2;", 7);
        fault("stay 1 ask 2;", 7);
        fault("or 1;late 0;ask 0;", 0);
        fault("and 1;late 0;ask 0;", 0);
        fault("not 1;late 0;ask 0;", 0);
        fault("stay 1;or 0;ask 0;", 7);
        StringBuilder longest = new StringBuilder("stay 1" + REST);
        while (longest.length() < 160) {
            longest.append(' ');
        }
        good(longest.toString());
    }

    private static void depth() {
        good("stay (((((1)))))" + REST);
        fault("stay ((((((1))))))" + REST, 10);
        good("stay not not not not not 1" + REST);
        fault("stay not not not not not not 1" + REST, 25);
        good("stay -----1" + REST);
        fault("stay ------1" + REST, 10);
        good("stay not(-(-1))" + REST);
        good("stay not not(-(1))" + REST);
        fault("stay not not(-(-1))" + REST, 15);
        fault("stay not not(-((1)))" + REST, 15);
        fault("stay not not(-(not 1))" + REST, 15);
        fault("stay not(((((1)))))" + REST, 12);
        // What ends is open no more; a - between two is none of these.
        good("stay (((((1)))))-(((((1)))))" + REST);
        good("stay -----1-1-1-1-----1" + REST);
        good("stay not not not not not 1 and (((((1)))))" + REST);
        fault("stay not not not not not 1 < (1)" + REST, 29);
        good("stay not not not not (1) < (1)" + REST);
    }

    /** What an E comes to, as asks() tells it: the E is put so that it is 0 .. 10. */
    private static void value(String e, int want) {
        BetweenStops x = new BetweenStops();
        x.stop(1, 0, 0, 0);
        Due.due("force a text of " + e, x.force(Due.textOf(x, "stay 0;late 0;ask " + e + ";")), 0);
        Due.due(e, x.asks(0), want);
    }

    private static void values() {
        value("7", 7);
        value("0-1", 0);
        value("-1", 0);
        value("11", 10);
        value("2+3*2", 8);
        value("(2+3)*2", 10);
        value("9-3-2", 4);
        value("9-(3-2)", 8);
        value("--3", 3);
        value("-3+5", 2);
        value("3*-2+9", 3);
        value("5 or 0", 1);
        value("0 or 0", 0);
        value("0 or 7", 1);
        value("5 and 7", 1);
        value("5 and 0", 0);
        value("0 or 5 and 0 or 0", 0);
        value("1 or 0 and 0", 1);
        value("(1 or 0) and 0", 0);
        value("not 5", 0);
        value("not 0", 1);
        value("not not 5", 1);
        value("not 1 = 2", 1);
        value("not 0 and 0", 0);
        value("(not 0) + 4", 5);
        value("2<3", 1);
        value("3<3", 0);
        value("4<3", 0);
        value("0-5<0-4", 1);
        value("3=3", 1);
        value("3=4", 0);
        value("1+2=3", 1);
        value("9999*9999*9999 < 0", 1);
        value("9999*9999*9999 = -1 * (9999*9999*9999) * -1", 1);
        value("cost+walk+wait+ride+many+sort+1", 1);
        // 2 to the 32nd is 0, 2 to the 31st the least int, which is less than what is 1 less than it.
        value("(256*256*256*256=0)*2+(256*256*256*128<0)+(256*256*256*128<256*256*256*128-1)", 4);
        value("4 < many or 3", 1);
        value("1+2*(1+2*(1+2*(1+2*(1+2*(1)))))-57", 6);
        // All levels wait in all that is open.
        value("0 or 1 and 1<0+2*(0 or 1 and 0<1+2*(0 or 1 and 0<1+2*(0 or 1 and 1<0+2*(0 or 1 and 1=2-1*(1)))))", 1);
        value("0 or 1 and 1<0+2*(0 or 1 and 0<1+2*(0 or 1 and 5<1+2*(0 or 1 and 1<0+2*(0 or 1 and 1=2-1*(1)))))", 1);
        value("0 or 1 and 1<0+2*(0 or 1 and 1<1+2*(0 or 1 and 5<1+2*(0 or 1 and 1<0+2*(0 or 1 and 1=2-1*(1)))))", 0);
    }

    private static void force() {
        BetweenStops x = new BetweenStops();
        Due.due("force 1", x.force(1), BetweenStops.BAD);
        Due.due("force -1", x.force(-1), BetweenStops.BAD);
        Due.due("force 0", x.force(0), 0);
        Due.textOf(x, "stay 1" + REST);
        Due.due("a text is no law yet", x.count(4), 0);
        x.trip(0, 0, 1, 0);
        Due.due("by the first law", x.homes(), 0);
        Due.due("force", x.force(1), 0);
        Due.due("the law", x.count(4), 1);
        Due.due("by the other", x.homes(), 1);
        Due.due("force again", x.force(1), 1);
        Due.due("a text with a fault is none", Due.textOf(x, "stay"), -104);
        Due.due("force 2", x.force(2), BetweenStops.BAD);
        Due.due("and back", x.force(0), 1);
        Due.due("by the first law", x.homes(), 0);
    }
}
