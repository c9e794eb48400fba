import java.util.Random;

/** Drawn texts, whole and spoilt: what becomes of each one on a new tape, and what a law of it says. */
public final class RandomTextsTest {
    private RandomTextsTest() {
    }

    public static void main(String[] args) {
        Random random = new Random(2026);
        for (int i = 0; i < 4000; i++) {
            BetweenStops x = new BetweenStops();
            PlainModel m = new PlainModel();
            x.stop(5, 2, 20, 3);
            m.stop(5, 2, 20, 3);
            x.stop(1, 37, 40, 0);
            m.stop(1, 37, 40, 0);
            for (int t = 0; t < 6; t++) {
                int from = random.nextInt(41);
                int many = 1 + random.nextInt(60);
                x.trip(from, 40 - from, many, t % 3);
                m.trip(from, 40 - from, many, t % 3);
            }
            for (int n = 0; n < 4; n++) {
                String bytes = RandomTexts.text(random);
                Due.feedAll(x, bytes);
                for (int b = 0; b < bytes.length(); b++) {
                    m.feed(bytes.charAt(b), 1);
                }
                int want = m.text();
                Due.due("text of '" + bytes + "'", x.text(), want);
                Due.due("force", x.force(want), m.force(want));
                Due.due("homes by '" + bytes + "'", x.homes(), m.homes());
                Due.due("asks by '" + bytes + "'", x.asks(1), m.asks(1));
                Due.due("bunch by '" + bytes + "'", x.bunch(2, 9), m.bunch(2, 9));
            }
        }
        Due.end();
    }
}
