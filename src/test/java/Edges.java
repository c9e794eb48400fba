import java.io.IOException;
import java.nio.file.Files;
import java.nio.file.Path;
import java.util.function.Supplier;

/**
 * What the document's words ask at their edges. A test cites the words that it stands for; CitedTest sees to it that
 * all words of the document's terms and promises are cited.
 */
final class Edges {
    private static final String DOCUMENT = document();
    private static String words = "";

    /** A call with one of its numbers left open. */
    interface Call {
        long on(BetweenStops x, int v);
    }

    /** A call with all its numbers. */
    interface Ask {
        long on(BetweenStops x);
    }

    private Edges() {
    }

    static String document() {
        try {
            return Files.readString(Path.of("../shared/DOC.md")).replaceAll("\\s+", " ");
        } catch (IOException e) {
            throw new IllegalStateException(e);
        }
    }

    static void words(String cited) {
        words = cited;
        Due.holds("the document says: " + cited, DOCUMENT.contains(cited));
    }

    static void due(String call, long got, long want) {
        Due.due("'" + words + "': " + call, got, want);
    }

    /** The values at both bounds are not refused; those just outside, and the ends of all ints, are. */
    static void bounds(long refusal, int least, int most, Supplier<BetweenStops> town, Call call) {
        for (int v : new int[] {least, most}) {
            long got = call.on(town.get(), v);
            Due.holds("'" + words + "': " + v + " is just inside, and answered " + got, got != refusal);
        }
        outside(refusal, least, most, town, call);
    }

    static void outside(long refusal, int least, int most, Supplier<BetweenStops> town, Call call) {
        for (int v : new int[] {least - 1, most + 1, Integer.MIN_VALUE, Integer.MAX_VALUE}) {
            refused(v + " is outside", refusal, town, x -> call.on(x, v));
        }
    }

    /** A refused call, and all that can be asked is as it was. */
    static void refused(String what, long refusal, Supplier<BetweenStops> town, Ask ask) {
        BetweenStops x = town.get();
        due(what, ask.on(x), refusal);
        asItWas(what, x, town);
    }

    static void unchanged(String what, Supplier<BetweenStops> town, Ask ask) {
        BetweenStops x = town.get();
        ask.on(x);
        asItWas(what, x, town);
    }

    private static void asItWas(String what, BetweenStops x, Supplier<BetweenStops> town) {
        String got = Reading.of(x);
        String want = Reading.of(town.get());
        Due.holds("'" + words + "': " + what + ", and all is as it was:\n" + got + "\nwas\n" + want, got.equals(want));
    }
}
