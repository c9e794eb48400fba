import java.util.Random;

/** Texts by the grammar, some of them spoilt. */
final class RandomTexts {
    private static final String[] NAMES = {"cost", "walk", "wait", "ride", "many", "sort"};
    private static final String[] SPOILERS = {"stay", "late", "ask", "or", "and", "not", "(", ")", ";", "+", "-", "*",
        "<", "=", "cost", "many", "7", "12345", "0000", "00000", "x", "costs", "@", "A", "\t", "", " ", "\n",
        "not not not not not not", "((((((", "------", "-(-(-(", "not(not("};
    private final Random random;

    private RandomTexts(Random random) {
        this.random = random;
    }

    static String text(Random random) {
        RandomTexts r = new RandomTexts(random);
        String whole;
        do {
            whole = "stay " + r.either(2) + ";late " + r.either(1) + r.blank() + ";ask" + r.blank() + " " + r.either(1) + ";" + r.blank();
        } while (whole.length() > 160);
        return random.nextInt(3) == 0 ? r.spoilt(whole) : whole;
    }

    /** A text by which some people stay at home, and others don't. */
    static String stay(Random random) {
        String[] stays = {"%d < wait", "%d < cost", "wait < %d", "%d < ride + wait", "(sort = 1) * wait < %d and many < 50", "cost < %d or many < 9",
            "not wait < %d", "walk * 2 < %d"};
        String[] lates = {"many", "wait * 2 - 100", "sort * 10 + many", "many < 5 or sort", "0 - many", "wait"};
        String[] asks = {"many", "many - 20", "sort + 1", "many * 10 < 99", "12", "sort * many"};
        int number = random.nextInt(random.nextBoolean() ? 500 : 3000);
        String stay = String.format(stays[random.nextInt(stays.length)], number);
        return "stay " + stay + ";late " + lates[random.nextInt(lates.length)] + ";ask " + asks[random.nextInt(asks.length)] + ";";
    }

    private String spoilt(String whole) {
        int place = random.nextInt(whole.length() + 1);
        String spoiler = SPOILERS[random.nextInt(SPOILERS.length)];
        int cut = random.nextBoolean() ? place : Math.min(whole.length(), place + 1 + random.nextInt(4));
        String all = random.nextInt(6) == 0 ? whole.substring(0, place) : whole.substring(0, place) + spoiler + whole.substring(cut);
        return all.substring(0, Math.min(160, all.length()));
    }

    private String blank() {
        return new String[] {"", "", " ", "\n", "  "}[random.nextInt(5)];
    }

    private String either(int depth) {
        String e = both(depth);
        for (int i = random.nextInt(4); i > 2; i--) {
            e += " or " + both(depth);
        }
        return e;
    }

    private String both(int depth) {
        String e = denied(depth);
        for (int i = random.nextInt(4); i > 2; i--) {
            e += " and " + denied(depth);
        }
        return e;
    }

    private String denied(int depth) {
        if (random.nextInt(8) == 0) {
            return "not " + denied(depth);
        }
        String e = summed(depth);
        return random.nextInt(2) == 0 ? e : e + blank() + (random.nextInt(4) == 0 ? "=" : "<") + blank() + summed(depth);
    }

    private String summed(int depth) {
        String e = timed(depth);
        for (int i = random.nextInt(4); i > 2; i--) {
            e += (random.nextBoolean() ? "+" : " - ") + timed(depth);
        }
        return e;
    }

    private String timed(int depth) {
        String e = one(depth);
        for (int i = random.nextInt(4); i > 2; i--) {
            e += blank() + "*" + one(depth);
        }
        return e;
    }

    private String one(int depth) {
        int draw = random.nextInt(depth > 0 ? 10 : 7);
        if (draw < 3) {
            return String.valueOf(random.nextInt(new int[] {10, 400, 2000, 10000}[random.nextInt(4)]));
        }
        if (draw < 6) {
            return NAMES[random.nextInt(6)];
        }
        if (draw == 6) {
            return "-" + one(depth);
        }
        return "(" + blank() + either(depth - 1) + ")";
    }
}
