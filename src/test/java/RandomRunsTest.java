import java.util.ArrayList;
import java.util.List;
import java.util.Random;

/** Long runs of calls drawn by fixed seeds, each answered by the program and by PlainModel. */
public final class RandomRunsTest {
    // An object is for 512 calls, and one draw makes up to 33 (a sheet of eight trips, and the trips).
    private static final int CALLS = 512 - 33;
    private final Random random;
    private final BetweenStops x = new BetweenStops();
    private final PlainModel m = new PlainModel();
    private final List<String> log = new ArrayList<>();
    private boolean isAlike = true;

    private RandomRunsTest(long seed) {
        random = new Random(seed);
    }

    public static void main(String[] args) {
        int runs = args.length > 0 ? Integer.parseInt(args[0]) : 150;
        int from = args.length > 1 ? Integer.parseInt(args[1]) : 0;
        for (int seed = from; seed < from + runs; seed++) {
            if (!new RandomRunsTest(seed).run(seed)) {
                Due.holds("run of seed " + seed, false);
                break;
            }
            Due.holds("run of seed " + seed, true);
        }
        Due.end();
    }

    private boolean run(long seed) {
        // Every third run begins with nothing; the others with a town in which it is worth riding.
        if (seed % 3 != 0 && !town()) {
            return false;
        }
        int dear = 0;
        while (log.size() < CALLS) {
            int op = random.nextInt(44);
            // Calls that change the town much come more seldom.
            if ((op == 0 || op == 1 || op == 2 || op == 5 || op == 7 || op == 28) && random.nextInt(3) != 0) {
                op = 11 + random.nextInt(3);
            }
            boolean isDear = op >= 18 && op <= 29;
            // The model is slow over all sets: a few such calls a run are enough.
            if (isDear && ++dear > 60) {
                op = random.nextInt(18);
            }
            if (!call(op) || !isAlike) {
                System.out.println("seed " + seed + ":");
                for (String line : log) {
                    System.out.println("  " + line);
                }
                return false;
            }
        }
        return true;
    }

    private boolean town() {
        boolean good = true;
        int stops = 3 + random.nextInt(6);
        for (int p = 0; p < stops; p++) {
            int kind = random.nextInt(6);
            int at = random.nextInt(4) == 0 ? 20 : random.nextInt(41);
            int takes = random.nextInt(random.nextBoolean() ? 100 : 20);
            int more = random.nextInt(61);
            good &= same("stop " + kind + " " + at + " " + takes + " " + more, x.stop(kind, at, takes, more), m.stop(kind, at, takes, more));
        }
        int trips = 2 + random.nextInt(6);
        for (int t = 0; t < trips; t++) {
            int a = random.nextInt(41);
            int b = random.nextBoolean() ? random.nextInt(41) : 40 - a;
            int n = 1 + random.nextInt(99);
            int k = random.nextInt(3);
            good &= same("trip " + a + " " + b + " " + n + " " + k, x.trip(a, b, n, k), m.trip(a, b, n, k));
        }
        for (int k = 0; k < 3; k++) {
            int pace = 10 + random.nextInt(51);
            good &= same("sort " + k + " 0 " + pace, x.sort(k, 0, pace), m.sort(k, 0, pace));
        }
        int every = 1 + random.nextInt(300);
        good &= same("car 0 " + every, x.car(0, every), m.car(0, every));
        for (int i = random.nextInt(3); i > 0; i--) {
            good &= feedText(RandomTexts.stay(random));
        }
        return good;
    }

    private boolean same(String call, long got, long want) {
        log.add(call + " = " + got + (got == want ? "" : ", due is " + want));
        isAlike &= got == want;
        return got == want;
    }

    /** Mostly within the bounds, now and then at or past them. */
    private int in(int low, int high) {
        int draw = random.nextInt(40);
        if (draw == 0) {
            return low - 1 - random.nextInt(3);
        }
        if (draw == 1) {
            return high + 1 + random.nextInt(3);
        }
        if (draw == 2) {
            return low;
        }
        if (draw == 3) {
            return high;
        }
        if (draw == 4) {
            return random.nextBoolean() ? Integer.MIN_VALUE : Integer.MAX_VALUE;
        }
        return low + random.nextInt(high - low + 1);
    }

    private int aStop() {
        return in(0, Math.max(0, m.stops.size() - 1));
    }

    private int aShared() {
        for (PlainModel.Stop s : m.stops) {
            if (s.kind() == 3 && random.nextBoolean()) {
                return s.number;
            }
        }
        return 0;
    }

    private int aTrip() {
        return in(0, Math.max(0, m.trips.size() - 1));
    }

    private int someOf(int... all) {
        return all[random.nextInt(all.length)];
    }

    private boolean call(int op) {
        int a;
        int b;
        int c;
        int d;
        switch (op) {
            case 0: a = in(0, 40); b = in(0, 9); return same("road " + a + " " + b, x.road(a, b), m.road(a, b));
            case 1:
                a = in(0, 2); b = in(0, 5);
                c = b == 0 ? in(1, 60) : b == 1 ? in(0, 60) : b < 5 ? in(0, 9) : someOf(in(0, 9999), in(0, 300));
                return same("sort " + a + " " + b + " " + c, x.sort(a, b, c), m.sort(a, b, c));
            case 2:
                a = in(0, 1); b = a == 0 ? someOf(in(1, 3600), in(1, 200), in(1, 30)) : someOf(in(1, 60), in(1, 5));
                return same("car " + a + " " + b, x.car(a, b), m.car(a, b));
            case 3: a = in(0, 40); b = in(0, 40); c = in(0, 2); return same("walks " + a + " " + b + " " + c, x.walks(a, b, c), m.walks(a, b, c));
            case 4:
                a = in(0, 5); b = in(0, 40); c = in(0, 99); d = in(0, 60);
                if (random.nextInt(12) != 0 && m.stops.size() > 5) return true;
                return same("stop " + a + " " + b + " " + c + " " + d, x.stop(a, b, c, d), m.stop(a, b, c, d));
            case 5: a = aStop(); b = random.nextBoolean() ? 1 : in(0, 1); return same("open " + a + " " + b, x.open(a, b), m.open(a, b));
            case 6: a = aStop(); b = in(0, 10); return same("want " + a + " " + b, x.want(a, b), m.want(a, b));
            case 7: a = aStop(); b = in(0, 2); return same("turns " + a + " " + b, x.turns(a, b), m.turns(a, b));
            case 8: a = aStop(); b = in(0, 6); return same("told " + a + " " + b, x.told(a, b), m.told(a, b));
            case 9: a = in(0, 40); b = in(0, 40); c = in(1, 99); d = in(0, 2); return same("trip " + a + " " + b + " " + c + " " + d, x.trip(a, b, c, d), m.trip(a, b, c, d));
            case 10: a = in(0, 7); return same("count " + a, x.count(a), m.count(a));
            case 11: a = aTrip(); b = in(0, 5); return same("takes " + a + " " + b, x.takes(a, b), m.takes(a, b));
            case 12: a = in(0, 2); return same("sum " + a, x.sum(a), m.sum(a));
            case 13: a = aStop(); return same("use " + a, x.use(a), m.use(a));
            case 14: long w = random.nextLong(); a = in(1, 8); return same("feed " + w + " " + a, x.feed(w, a), m.feed(w, a));
            case 15: return feedText(random.nextInt(3) == 0 ? RandomTexts.stay(random) : RandomTexts.text(random));
            case 16: return same("text", x.text(), m.text());
            case 17: a = in(0, Math.max(0, m.texts.size() - 1)); return same("force " + a, x.force(a), m.force(a));
            default: return op < 36 ? callOnSets(op) : callOnHost(op);
        }
    }

    private boolean callOnSets(int op) {
        int a;
        int b;
        switch (op) {
            case 18: a = in(0, 1); return same("best " + a, x.best(a), m.best(a));
            case 19: a = someOf(in(0, 99999), in(0, 400), in(0, 1200)); return same("bound " + a, x.bound(a), m.bound(a));
            case 20: a = someOf(in(0, 999999), in(0, 500), 0); return same("least " + a, x.least(a), m.least(a));
            case 21: return same("fair", x.fair(), m.fair());
            case 22:
                a = random.nextBoolean() ? in(0, 999999999) : (int) Math.min(999999999, m.total() - 100 + random.nextInt(5000));
                return same("fewest " + a, x.fewest(a), m.fewest(a));
            case 23: return judgeOne();
            case 24: a = in(0, 1); return same("patterns " + a, x.patterns(a), m.patterns(a));
            case 25: a = aStop(); b = in(0, 3); return same("bench " + a + " " + b, x.bench(a, b), m.bench(a, b));
            case 26: return same("give", x.give(), m.give());
            case 27: a = in(0, 8); return same("order " + a, x.order(a), m.order(a));
            case 28: return random.nextInt(3) != 0 || same("thins", x.thins(), m.thins());
            case 29: a = someOf(aStop(), aShared()); return same("across " + a, x.across(a), m.across(a));
            case 30: return same("homes", x.homes(), m.homes());
            case 31: a = in(0, 20); return same("round " + a, x.round(a), m.round(a));
            case 32: a = in(0, 2); return same("rest " + a, x.rest(a), m.rest(a));
            case 33: a = aStop(); return same("asks " + a, x.asks(a), m.asks(a));
            case 34: return same("asked", x.asked(), m.asked());
            default: a = in(0, 11); b = someOf(in(0, 3600), in(0, 100)); return same("bunch " + a + " " + b, x.bunch(a, b), m.bunch(a, b));
        }
    }

    private boolean callOnHost(int op) {
        int a;
        int b;
        int c;
        int d;
        int e;
        switch (op) {
            case 36: a = in(2, 12); b = someOf(in(0, 3600), in(0, 100)); return same("crowd " + a + " " + b, x.crowd(a, b), m.crowd(a, b));
            case 37: a = aTrip(); b = in(0, 99999); return same("drawn " + a + " " + b, x.drawn(a, b), m.drawn(a, b));
            case 38:
                if (random.nextInt(3) != 0) return same("image", x.image(), m.image());
                return same("back", x.back(), m.back());
            case 39:
                a = in(0, 3); b = random.nextInt(8) == 0 ? in(-1, 2) : in(0, 2); c = someOf(in(0, 41), m.stops.size(), 41);
                return same("sheet " + a + " " + b + " " + c, x.sheet(a, b, c), m.sheet(a, b, c));
            case 40:
                a = in(0, 3); b = someOf(in(0, 40), in(0, 12)); c = someOf(in(0, 40), in(0, 2), random.nextInt());
                return same("cell " + a + " " + b + " " + c, x.cell(a, b, c), m.cell(a, b, c));
            case 41:
                a = in(0, 3); b = in(0, 40); c = in(0, 3); d = in(0, 40); e = someOf(in(0, 41), in(0, 8));
                return same("copy " + a + " " + b + " " + c + " " + d + " " + e, x.copy(a, b, c, d, e), m.copy(a, b, c, d, e));
            case 42:
                a = in(0, 3); b = m.sheets[a & 3] == null || random.nextInt(5) == 0 ? in(0, 2) : m.sheets[a & 3].sort();
                c = someOf(in(0, 40), in(0, 8)); d = someOf(in(0, 8), in(0, 2));
                if (a >= 0 && a < 4 && m.sheets[a] != null && random.nextBoolean()) writeTrips(a, c);
                return same("tripsBy " + a + " " + b + " " + c + " " + d, x.tripsBy(a, b, c, d), m.tripsBy(a, b, c, d));
            default: a = in(0, 15); b = in(0, 6); return same("taken " + a + " " + b, x.taken(a, b), m.taken(a, b));
        }
    }

    private void writeTrips(int s, int at) {
        for (int i = 0; i < 8; i++) {
            int v = i % 4 == 2 ? in(1, 99) : i % 4 == 3 ? in(0, 2) : in(0, 40);
            same("cell " + s + " " + (at + i) + " " + v, x.cell(s, at + i, v), m.cell(s, at + i, v));
        }
    }

    private boolean judgeOne() {
        int s = in(0, 3);
        if (s >= 0 && s < 4 && random.nextInt(4) != 0) {
            same("sheet " + s + " 0 " + m.stops.size(), x.sheet(s, 0, m.stops.size()), m.sheet(s, 0, m.stops.size()));
            for (int p = 0; p < m.stops.size(); p++) {
                int v = in(0, 1);
                same("cell " + s + " " + p + " " + v, x.cell(s, p, v), m.cell(s, p, v));
            }
        }
        return same("judge " + s, x.judge(s), m.judge(s));
    }

    // ---- texts

    private boolean feedText(String bytes) {
        while (!m.tape.isEmpty()) {
            if (!same("text", x.text(), m.text())) {
                return false;
            }
            if (m.texts.size() == 6) {
                break;
            }
        }
        for (int i = 0; i < bytes.length(); i += 8) {
            int n = Math.min(8, bytes.length() - i);
            long w = random.nextLong();
            for (int b = i; b < i + n; b++) {
                w = w << 8 | bytes.charAt(b);
            }
            if (!same("feed " + w + " " + n, x.feed(w, n), m.feed(w, n))) {
                return false;
            }
        }
        if (!same("text of '" + bytes + "'", x.text(), m.text())) {
            return false;
        }
        int law = m.texts.size() - 1;
        return random.nextBoolean() || same("force " + law, x.force(law), m.force(law));
    }
}
