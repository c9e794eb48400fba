/** Counts the answers that are not the ones that are due. */
final class Due {
    private static int wrong = 0;
    private static int asked = 0;

    private Due() {
    }

    static void due(String call, long got, long want) {
        asked++;
        if (got != want) {
            wrong++;
            System.out.println(call + " answered " + got + ", due is " + want);
        }
    }

    static void holds(String what, boolean is) {
        due(what, is ? 1 : 0, 1);
    }

    /** Feeds the tape as few calls at a time as it can: eight bytes each. */
    static void feedAll(BetweenStops x, String bytes) {
        for (int i = 0; i < bytes.length(); i += 8) {
            String piece = bytes.substring(i, Math.min(bytes.length(), i + 8));
            long w = 0;
            for (char b : piece.toCharArray()) {
                w = w << 8 | b;
            }
            x.feed(w, piece.length());
        }
    }

    static int textOf(BetweenStops x, String bytes) {
        feedAll(x, bytes);
        return x.text();
    }

    static void end() {
        System.out.println(wrong == 0 ? asked + " answers are as due" : wrong + " of " + asked + " answers are not as due");
        if (wrong != 0) {
            System.exit(1);
        }
    }
}
