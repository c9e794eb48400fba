import java.util.ArrayList;
import java.util.Arrays;
import java.util.HashMap;
import java.util.List;
import java.util.Map;

/**
 * The document once more, written apart from the program and as near to its words as can be, however slow: every
 * way is listed, every walk is gone step by step, texts become trees.
 */
final class PlainModel {
    static final int NONE = -1, BAD = -2, STATE = -3, FULL = -4;
    static final long NO = -4611686018427387904L;

    static class Stop {
        int number, cell, takes, more, wanted = 5, pattern = 0;
        boolean open = true;
        boolean serves(int car) { return true; }
        int seconds(int tenths) { return takes; }
        boolean asked() { return false; }
        int kind() { return 0; }
        boolean lets(int car) { return pattern == 0 || pattern == car + 1; }
    }
    static class Asked extends Stop {
        @Override int seconds(int tenths) { return super.seconds(tenths) * tenths / 10; }
        @Override boolean asked() { return true; }
        @Override int kind() { return 1; }
    }
    static class Turn extends Stop {
        @Override boolean serves(int car) { return more % 2 == car; }
        @Override int kind() { return 2; }
    }
    static class Shared extends Stop {
        @Override int seconds(int tenths) { return super.seconds(tenths) + more; }
        @Override int kind() { return 3; }
    }
    static class Second extends Turn {
        @Override boolean serves(int car) { return !super.serves(car); }
        @Override int seconds(int tenths) { return super.seconds(tenths) / 2; }
        @Override int kind() { return 4; }
    }
    static class Told extends Asked {
        @Override int seconds(int tenths) { return super.seconds(tenths) + more; }
        @Override int kind() { return 5; }
    }
    private static final List<Class<? extends Stop>> KINDS =
        List.of(Stop.class, Asked.class, Turn.class, Shared.class, Second.class, Told.class);

    record Trip(int from, int to, int many, int sort) { }
    record Way(int in, int out, int walk, int waits, int ride, int cost) { }
    record Law(Ex stay, Ex late, Ex ask) { }
    record Sheet(int sort, int[] row) { }
    interface Ex { int of(Map<String, Integer> names); }
    private static final class Fault extends Exception {
        private static final long serialVersionUID = 1L;
        final int place;
        Fault(int place) { this.place = place; }
    }

    int[] heights = new int[41];
    int[][] sorts = {{10, 5, 2, 2, 1, 300}, {15, 20, 3, 2, 1, 200}, {6, 2, 1, 3, 1, 600}};
    int every = 300, pace = 3;
    final List<Stop> stops = new ArrayList<>();
    final List<Trip> trips = new ArrayList<>();
    final List<Law> texts = new ArrayList<>();
    final List<Integer> tape = new ArrayList<>();
    int law = 0;
    final Sheet[] sheets = new Sheet[4];
    PlainModel kept = null;
    int keptTrips;

    PlainModel() {
        for (char b : "stay 2000 < cost ; late many * 2 ; ask many ;".toCharArray()) {
            tape.add((int) b);
        }
        text();
    }

    static boolean out(long v, long low, long high) { return v < low || v > high; }

    int road(int c, int h) {
        if (out(c, 0, 40)) return NONE;
        if (out(h, 0, 9)) return BAD;
        int was = heights[c];
        heights[c] = h;
        return was;
    }

    int sort(int k, int what, int v) {
        if (out(k, 0, 2)) return NONE;
        int low = what == 0 ? 1 : 0;
        int high = what <= 1 ? 60 : what <= 4 ? 9 : 9999;
        if (out(what, 0, 5) || out(v, low, high)) return BAD;
        int was = sorts[k][what];
        sorts[k][what] = v;
        return was;
    }

    int car(int what, int v) {
        if (what == 0 && !out(v, 1, 3600)) { int was = every; every = v; return was; }
        if (what == 1 && !out(v, 1, 60)) { int was = pace; pace = v; return was; }
        return BAD;
    }

    int walk(int a, int b, int k) {
        int seconds = 0;
        for (int at = a; at != b; ) {
            int next = at < b ? at + 1 : at - 1;
            seconds += sorts[k][0];
            for (int up = heights[at]; up < heights[next]; up++) seconds += sorts[k][1];
            at = next;
        }
        return seconds;
    }

    int walks(int a, int b, int k) {
        if (out(a, 0, 40) || out(b, 0, 40)) return -5;
        if (out(k, 0, 2)) return -7;
        return walk(a, b, k);
    }

    int stop(int kind, int at, int takes, int more) {
        if (out(kind, 0, 5) || out(at, 0, 40) || out(takes, 0, 99) || out(more, 0, 60)) return BAD;
        if (stops.size() == 8) return FULL;
        Stop s = kind == 0 ? new Stop() : kind == 1 ? new Asked() : kind == 2 ? new Turn()
            : kind == 3 ? new Shared() : kind == 4 ? new Second() : new Told();
        s.number = stops.size();
        s.cell = at;
        s.takes = takes;
        s.more = more;
        stops.add(s);
        return s.number;
    }

    boolean noStop(int p) { return out(p, 0, stops.size() - 1); }
    boolean noTrip(int i) { return out(i, 0, trips.size() - 1); }

    int open(int p, int is) {
        if (noStop(p)) return NONE;
        if (out(is, 0, 1)) return BAD;
        int was = stops.get(p).open ? 1 : 0;
        stops.get(p).open = is != 0;
        return was;
    }

    int want(int p, int tenths) {
        if (noStop(p)) return NONE;
        if (out(tenths, 0, 10)) return BAD;
        int was = stops.get(p).wanted;
        stops.get(p).wanted = tenths;
        return was;
    }

    int turns(int p, int v) {
        if (noStop(p)) return NONE;
        if (out(v, 0, 2)) return BAD;
        int was = stops.get(p).pattern;
        stops.get(p).pattern = v;
        return was;
    }

    int told(int p, int what) {
        if (noStop(p)) return -5;
        if (out(what, 0, 6)) return -7;
        Stop s = stops.get(p);
        int cars = (s.serves(0) && s.lets(0) ? 1 : 0) + (s.serves(1) && s.lets(1) ? 2 : 0);
        int[] all = {s.kind(), s.cell, s.seconds(s.wanted), s.open ? 1 : 0, s.wanted, cars, s.asked() ? 1 : 0};
        return all[what];
    }

    int trip(int a, int b, int n, int k) {
        if (out(a, 0, 40) || out(b, 0, 40) || out(n, 1, 99) || out(k, 0, 2)) return BAD;
        if (trips.size() == 8) return FULL;
        trips.add(new Trip(a, b, n, k));
        return trips.size() - 1;
    }

    int count(int what) {
        if (out(what, 0, 7)) return BAD;
        int open = (int) stops.stream().filter(s -> s.open).count();
        return new int[] {stops.size(), trips.size(), open, texts.size(), law, tape.size(), every, pace}[what];
    }

    // ---- ways

    boolean stopsAt(int car, Stop s) { return s.open && s.serves(car) && s.lets(car); }

    int carRides(int car, Stop p, Stop q) {
        int seconds = pace * Math.abs(p.cell - q.cell);
        for (Stop s : stops) {
            boolean between = s.cell > p.cell && s.cell < q.cell || s.cell < p.cell && s.cell > q.cell;
            if (between && stopsAt(car, s)) seconds += s.seconds(s.wanted);
        }
        return seconds;
    }

    List<Way> waysOf(Trip t, int everyNow) {
        List<Way> ways = new ArrayList<>();
        int[] w = sorts[t.sort];
        int direct = walk(t.from, t.to, t.sort);
        ways.add(new Way(-1, -1, direct, 0, 0, direct * w[2]));
        for (Stop p : stops) {
            for (Stop q : stops) {
                if (p == q || !p.open || !q.open) continue;
                boolean first = stopsAt(0, p) && stopsAt(0, q);
                boolean other = stopsAt(1, p) && stopsAt(1, q);
                if (!first && !other) continue;
                int walk = walk(t.from, p.cell, t.sort) + walk(q.cell, t.to, t.sort);
                int wait = first && other ? everyNow / 2 : everyNow;
                int ride = first && other ? (carRides(0, p, q) + carRides(1, p, q)) / 2 : carRides(first ? 0 : 1, p, q);
                ways.add(new Way(p.number, q.number, walk, wait, ride, walk * w[2] + wait * w[3] + ride * w[4]));
            }
        }
        return ways;
    }

    Way bestWay(Trip t, int everyNow) {
        Way best = null;
        for (Way way : waysOf(t, everyNow)) {
            if (best == null || way.cost < best.cost) best = way;
        }
        return best;
    }

    Way bestWay(int i) { return bestWay(trips.get(i), every); }

    int takes(int i, int what) {
        if (noTrip(i)) return -5;
        if (out(what, 0, 5)) return -7;
        Way w = bestWay(i);
        return new int[] {w.cost, w.in, w.out, w.walk, w.waits, w.ride}[what];
    }

    long total() {
        long total = 0;
        for (Trip t : trips) total += (long) t.many * bestWay(t, every).cost;
        return total;
    }

    int[] costs() { return trips.stream().mapToInt(t -> bestWay(t, every).cost).toArray(); }

    int highest() { return Arrays.stream(costs()).max().orElse(0); }

    long sum(int what) {
        if (out(what, 0, 2)) return NO;
        if (what == 0) return total();
        if (what == 2) return highest();
        for (int i = 0; i < trips.size(); i++) {
            if (costs()[i] == highest()) return i;
        }
        return -1;
    }

    int use(int p) {
        if (noStop(p)) return -5;
        int people = 0;
        for (Trip t : trips) {
            Way w = bestWay(t, every);
            if (w.in == p) people += t.many;
            if (w.out == p) people += t.many;
        }
        return people;
    }

    // ---- texts

    int feed(long w, int n) {
        if (out(n, 1, 8)) return BAD;
        if (tape.size() + n > 160) return FULL;
        List<Integer> come = new ArrayList<>();
        for (int i = 0; i < n; i++, w >>= 8) come.add(0, (int) (w & 0xff));
        tape.addAll(come);
        return tape.size();
    }

    int text() {
        if (texts.size() == 6) return FULL;
        StringBuilder bytes = new StringBuilder();
        for (int b : tape) bytes.append((char) b);
        tape.clear();
        try {
            texts.add(new Parse(bytes.toString()).law());
            return texts.size() - 1;
        } catch (Fault f) {
            return -100 - f.place;
        }
    }

    /** Takes tokens off the front of what is left; the depth of what is open is a counter. */
    private static final class Parse {
        final String all;
        String left;
        int open = 0;
        Parse(String all) { this.all = all; this.left = all; }

        static final List<String> WORDS = List.of("stay", "late", "ask", "or", "and", "not",
            "cost", "walk", "wait", "ride", "many", "sort");

        String peek() throws Fault {
            left = left.replaceFirst("^[ \n]+", "");
            if (left.isEmpty()) return "";
            String token = left.replaceFirst("(?s)^([a-z]+|[0-9]+|[();+*<=-]|).*", "$1");
            boolean isWord = token.matches("[a-z]+");
            boolean isNumber = token.matches("[0-9]+");
            if (token.isEmpty() || isWord && !WORDS.contains(token) || isNumber && token.length() > 4) throw here();
            return token;
        }
        Fault here() { return new Fault(all.length() - left.length()); }
        String take() throws Fault { String t = peek(); left = left.substring(t.length()); return t; }
        void take(String want) throws Fault { if (!peek().equals(want)) throw here(); take(); }
        boolean is(String... any) throws Fault { return Arrays.asList(any).contains(peek()); }

        Law law() throws Fault {
            take("stay"); Ex stay = e(); take(";");
            take("late"); Ex late = e(); take(";");
            take("ask"); Ex ask = e(); take(";");
            if (!peek().isEmpty()) throw here();
            return new Law(stay, late, ask);
        }
        Ex e() throws Fault {
            Ex value = and();
            while (is("or")) {
                take(); Ex a = value, b = and();
                value = n -> (a.of(n) != 0) | (b.of(n) != 0) ? 1 : 0;
            }
            return value;
        }
        Ex and() throws Fault {
            Ex value = not();
            while (is("and")) {
                take(); Ex a = value, b = not();
                value = n -> (a.of(n) != 0) & (b.of(n) != 0) ? 1 : 0;
            }
            return value;
        }
        void enter() throws Fault { if (open == 5) throw here(); take(); open++; }
        Ex not() throws Fault {
            if (is("not")) {
                enter(); Ex a = not(); open--;
                return n -> a.of(n) != 0 ? 0 : 1;
            }
            Ex a = sum();
            if (!is("<", "=")) return a;
            boolean less = take().equals("<");
            Ex b = sum();
            return n -> less ? (a.of(n) < b.of(n) ? 1 : 0) : (a.of(n) == b.of(n) ? 1 : 0);
        }
        Ex sum() throws Fault {
            Ex value = term();
            while (is("+", "-")) {
                boolean plus = take().equals("+");
                Ex a = value, b = term();
                value = n -> plus ? a.of(n) + b.of(n) : a.of(n) - b.of(n);
            }
            return value;
        }
        Ex term() throws Fault {
            Ex value = one();
            while (is("*")) {
                take(); Ex a = value, b = one();
                value = n -> a.of(n) * b.of(n);
            }
            return value;
        }
        Ex one() throws Fault {
            if (is("-")) { enter(); Ex a = one(); open--; return n -> -a.of(n); }
            if (is("(")) { enter(); Ex a = e(); take(")"); open--; return a; }
            String token = peek();
            if (token.matches("[0-9]+")) { int v = Integer.parseInt(take()); return n -> v; }
            if (WORDS.indexOf(token) < 6) throw here();
            take();
            return n -> n.get(token);
        }
    }

    int force(int t) {
        if (out(t, 0, texts.size() - 1)) return BAD;
        int was = law;
        law = t;
        return was;
    }

    static Map<String, Integer> names(int cost, int walk, int wait, int ride, int many, int sort) {
        Map<String, Integer> names = new HashMap<>();
        names.put("cost", cost); names.put("walk", walk); names.put("wait", wait);
        names.put("ride", ride); names.put("many", many); names.put("sort", sort);
        return names;
    }

    static int clamp(int v, int low, int high) { return v < low ? low : v > high ? high : v; }

    // ---- sets

    boolean[] openNow() {
        boolean[] is = new boolean[stops.size()];
        for (Stop s : stops) is[s.number] = s.open;
        return is;
    }
    void openJust(int set) { for (Stop s : stops) s.open = (set >> s.number & 1) == 1; }
    void openAgain(boolean[] is) { for (Stop s : stops) s.open = is[s.number]; }

    /** What every set comes to: the total, the highest cost, the costs, the walking. */
    record Look(int set, long total, int highest, int[] costs, int[] walk) {
        int size() { return Integer.bitCount(set); }
    }
    List<Look> allSets() {
        boolean[] was = openNow();
        List<Look> all = new ArrayList<>();
        for (int set = 0; set < 1 << stops.size(); set++) {
            openJust(set);
            int[] walk = trips.stream().mapToInt(t -> bestWay(t, every).walk).toArray();
            all.add(new Look(set, total(), highest(), costs(), walk));
        }
        openAgain(was);
        return all;
    }
    static Look bestOf(List<Look> some) {
        List<Look> sorted = new ArrayList<>(some);
        sorted.sort((a, b) -> a.total != b.total ? Long.compare(a.total, b.total)
            : a.size() != b.size() ? a.size() - b.size() : a.set - b.set);
        return sorted.isEmpty() ? null : sorted.get(0);
    }
    static int setOf(Look look) { return look == null ? -1 : look.set; }

    long best(int what) {
        if (out(what, 0, 1)) return NO;
        Look best = bestOf(allSets());
        return what == 0 ? best.set : best.total;
    }
    int bound(int secs) {
        if (out(secs, 0, 99999)) return BAD;
        return setOf(bestOf(allSets().stream().filter(l -> Arrays.stream(l.walk).allMatch(w -> w <= secs)).toList()));
    }
    int least(int drop) {
        if (out(drop, 0, 999999)) return BAD;
        int[] now = costs();
        List<Look> some = new ArrayList<>();
        for (Look l : allSets()) {
            boolean good = true;
            for (int i = 0; i < now.length; i++) good &= l.costs[i] <= now[i] + drop;
            if (good) some.add(l);
        }
        return setOf(bestOf(some));
    }
    int fair() {
        Look best = null;
        for (Look l : allSets()) if (best == null || l.highest < best.highest) best = l;
        return best.set;
    }
    int fewest(int most) {
        if (out(most, 0, 999999999)) return BAD;
        Look best = null;
        for (Look l : allSets()) if (l.total <= most && (best == null || l.size() < best.size())) best = l;
        return setOf(best);
    }
    int judge(int s) {
        if (out(s, 0, 3)) return BAD;
        if (sheets[s] == null) return -11;
        int[] row = sheets[s].row;
        if (row.length != stops.size()) return BAD;
        for (int v : row) if (v != 0 && v != 1) return BAD;
        boolean[] was = openNow();
        for (Stop stop : stops) stop.open = row[stop.number] == 1;
        int found = -1;
        for (int i = trips.size() - 1; i >= 0; i--) {
            if (bestWay(i).walk > sorts[trips.get(i).sort][5]) found = i;
        }
        openAgain(was);
        return found;
    }
    long patterns(int what) {
        if (out(what, 0, 1)) return NO;
        int n = Math.min(5, stops.size());
        int[] was = stops.stream().mapToInt(s -> s.pattern).toArray();
        long[] found = {0, Long.MAX_VALUE};
        choose(0, n, 0, found);
        for (Stop s : stops) s.pattern = was[s.number];
        return found[what];
    }
    private void choose(int p, int n, long digits, long[] found) {
        if (p == n) {
            long total = total();
            if (total < found[1]) { found[0] = digits; found[1] = total; }
            return;
        }
        for (int pattern = 0; pattern < 3; pattern++) {
            stops.get(p).pattern = pattern;
            choose(p + 1, n, digits * 10 + pattern, found);
        }
    }

    // ---- one stop more or less

    long bench(int p, int what) {
        if (noStop(p) || out(what, 0, 3)) return NO;
        int[] now = costs();
        long before = total();
        stops.get(p).open = !stops.get(p).open;
        int[] then = costs();
        long after = total();
        stops.get(p).open = !stops.get(p).open;
        long more = 0, less = 0, most = 0;
        for (int i = 0; i < now.length; i++) {
            if (then[i] > now[i]) more += trips.get(i).many;
            if (then[i] < now[i]) less += trips.get(i).many;
            most = Math.max(most, then[i] - now[i]);
        }
        return new long[] {after - before, more, less, most}[what];
    }
    int give() {
        int found = -1;
        long least = Long.MAX_VALUE;
        for (Stop s : stops) {
            if (!s.open) continue;
            s.open = false;
            long total = total();
            s.open = true;
            if (total < least) { least = total; found = s.number; }
        }
        return found;
    }
    int order(int n) {
        if (out(n, 0, 8)) return BAD;
        boolean[] was = openNow();
        StringBuilder digits = new StringBuilder("0");
        for (int i = 0; i < n; i++) {
            int p = give();
            if (p < 0) break;
            digits.append(p + 1);
            stops.get(p).open = false;
        }
        openAgain(was);
        return Integer.parseInt(digits.toString());
    }
    int thins() {
        int given = 0;
        while (true) {
            int p = give();
            if (p < 0) return given;
            long before = total();
            stops.get(p).open = false;
            if (total() > before) { stops.get(p).open = true; return given; }
            given++;
        }
    }
    long across(int p) {
        if (noStop(p) || !(stops.get(p) instanceof Shared)) return NO;
        long now = total();
        Stop shared = stops.get(p);
        Stop plain = new Stop();
        plain.number = p;
        plain.cell = shared.cell;
        plain.takes = shared.takes;
        plain.more = shared.more;
        plain.open = shared.open;
        plain.wanted = shared.wanted;
        plain.pattern = shared.pattern;
        stops.set(p, plain);
        long then = total();
        stops.set(p, shared);
        return now - then;
    }

    // ---- homes, asks

    int homesAt(int everyThen) {
        int homes = 0;
        for (int i = 0; i < trips.size(); i++) {
            Trip t = trips.get(i);
            Way w = bestWay(t, everyThen);
            if (texts.get(law).stay.of(names(w.cost, w.walk, w.waits, w.ride, t.many, t.sort)) != 0) homes += 1 << i;
        }
        return homes;
    }
    int homes() { return homesAt(every); }
    List<Integer> rounds(int n) {
        List<Integer> all = new ArrayList<>(List.of(0));
        int people = trips.stream().mapToInt(Trip::many).sum();
        for (int r = 1; r <= n; r++) {
            int went = 0;
            for (int i = 0; i < trips.size(); i++) if ((all.get(r - 1) >> i & 1) == 0) went += trips.get(i).many;
            all.add(homesAt(clamp(every * people / Math.max(went, 1), 1, 3600)));
        }
        return all;
    }
    int round(int n) {
        if (out(n, 0, 20)) return BAD;
        return rounds(n).get(n);
    }
    int rest(int what) {
        if (out(what, 0, 2)) return BAD;
        List<Integer> all = rounds(20);
        for (int r = 1; r <= 20; r++) {
            int first = all.indexOf(all.get(r));
            if (first < r) return new int[] {all.get(r), first, r - first}[what];
        }
        return STATE;
    }
    int asks(int p) {
        if (noStop(p)) return -5;
        if (!stops.get(p).asked()) return stops.get(p).wanted;
        return clamp(texts.get(law).ask.of(names(0, 0, 0, 0, use(p), p)), 0, 10);
    }
    int asked() {
        int[] say = stops.stream().mapToInt(s -> asks(s.number)).toArray();
        int other = 0;
        for (Stop s : stops) {
            if (s.wanted != say[s.number]) other++;
            s.wanted = say[s.number];
        }
        return other;
    }

    // ---- cars, days

    List<Integer> run(int cars, int late) {
        int[] uses = stops.stream().mapToInt(s -> use(s.number)).toArray();
        Map<Integer, Integer> leftAt = new HashMap<>();
        List<Stop> along = new ArrayList<>(stops);
        along.sort((a, b) -> a.cell != b.cell ? a.cell - b.cell : a.number - b.number);
        List<Integer> ends = new ArrayList<>();
        for (int k = 0; k < cars; k++) {
            int time = k * every + (k == 0 ? late : 0);
            int cell = 0;
            for (Stop s : along) {
                if (!stopsAt(k % 2, s)) continue;
                time += pace * (s.cell - cell);
                cell = s.cell;
                Integer ahead = leftAt.get(s.number);
                if (ahead != null && time < ahead) time = ahead;
                int wait = ahead != null ? time - ahead : time + every;
                int many = uses[s.number] * wait / every;
                int more = clamp(texts.get(law).late.of(names(0, 0, wait, 0, many, s.number)), 0, 999);
                time += s.seconds(s.wanted) + more;
                leftAt.put(s.number, time);
            }
            ends.add(time + pace * (40 - cell));
        }
        return ends;
    }
    int bunch(int k, int late) {
        if (out(k, 0, 11) || out(late, 0, 3600)) return BAD;
        return run(k + 1, late).get(k);
    }
    int crowd(int cars, int late) {
        if (out(cars, 2, 12) || out(late, 0, 3600)) return BAD;
        List<Integer> ends = run(cars, late);
        int least = Integer.MAX_VALUE;
        for (int k = 1; k < cars; k++) least = Math.min(least, ends.get(k) - ends.get(k - 1));
        return least;
    }
    int drawn(int i, int seed) {
        if (noTrip(i)) return -5;
        if (out(seed, 0, 99999)) return -7;
        Way w = bestWay(i);
        if (w.in < 0) return STATE;
        Stop p = stops.get(w.in), q = stops.get(w.out);
        long[] lots = new long[stops.size() + 1];
        lots[0] = (seed + 1L) * 48271 % 2147483647;
        for (int j = 1; j < lots.length; j++) lots[j] = lots[j - 1] * 48271 % 2147483647;
        boolean first = stopsAt(0, p) && stopsAt(0, q), other = stopsAt(1, p) && stopsAt(1, q);
        int car = first && other ? (int) (lots[0] % 2) : first ? 0 : 1;
        int seconds = pace * Math.abs(p.cell - q.cell);
        for (Stop s : stops) {
            boolean between = s.cell > Math.min(p.cell, q.cell) && s.cell < Math.max(p.cell, q.cell);
            if (!between || !stopsAt(car, s)) continue;
            if (!s.asked()) seconds += s.seconds(s.wanted);
            else if (lots[s.number + 1] % 10 < s.wanted) seconds += s.seconds(10);
        }
        return seconds;
    }
    int image() {
        kept = new PlainModel();
        kept.heights = heights.clone();
        for (int k = 0; k < 3; k++) kept.sorts[k] = sorts[k].clone();
        kept.every = every;
        kept.pace = pace;
        for (Stop s : stops) {
            kept.stop(0, 0, 0, 0);
            kept.open(s.number, s.open ? 1 : 0);
            kept.want(s.number, s.wanted);
            kept.turns(s.number, s.pattern);
        }
        kept.keptTrips = trips.size();
        kept.law = law;
        return stops.size();
    }
    int back() {
        if (kept == null) return STATE;
        heights = kept.heights.clone();
        for (int k = 0; k < 3; k++) sorts[k] = kept.sorts[k].clone();
        every = kept.every;
        pace = kept.pace;
        for (Stop s : kept.stops) {
            stops.get(s.number).open = s.open;
            stops.get(s.number).wanted = s.wanted;
            stops.get(s.number).pattern = s.pattern;
        }
        while (trips.size() > kept.keptTrips) trips.remove(trips.size() - 1);
        law = kept.law;
        return stops.size();
    }

    // ---- the host

    int sheet(int s, int sort, int n) {
        if (out(s, 0, 3) || out(sort, -1, 2)) return BAD;
        if (sort == -1) { sheets[s] = null; return 1; }
        if (n > 41) return BAD;
        if (n < 0) return -14;
        sheets[s] = new Sheet(sort, new int[n]);
        return 1;
    }
    int cell(int s, int i, int v) {
        if (out(s, 0, 3)) return BAD;
        if (sheets[s] == null) return -11;
        if (out(i, 0, sheets[s].row.length - 1)) return -12;
        int shift = 32 - (8 << sheets[s].sort);
        sheets[s].row[i] = v << shift >> shift;
        return 1;
    }
    int copy(int s, int i, int other, int j, int n) {
        if (out(s, 0, 3) || out(other, 0, 3)) return BAD;
        if (sheets[s] == null || sheets[other] == null) return -11;
        if (sheets[s].sort != sheets[other].sort) return -13;
        int[] from = sheets[s].row.clone(), to = sheets[other].row;
        if (n < 0 || i < 0 || j < 0 || (long) i + n > from.length || (long) j + n > to.length) return -12;
        for (int m = 0; m < n; m++) to[j + m] = from[i + m];
        return n;
    }
    int tripsBy(int s, int sort, int at, int n) {
        if (out(s, 0, 3) || out(sort, 0, 2) || out(n, 0, 8)) return BAD;
        if (sheets[s] == null) return -11;
        if (sheets[s].sort != sort) return -13;
        int came = 0;
        for (int m = 0; m < n; m++) {
            int[] four = new int[4];
            for (int f = 0; f < 4; f++) {
                long place = (long) at + 4L * m + f;
                if (out(place, 0, sheets[s].row.length - 1)) return -12;
                four[f] = sheets[s].row[(int) place];
            }
            if (trip(four[0], four[1], four[2], four[3]) >= 0) came++;
        }
        return came;
    }
    int taken(int i, int kind) {
        if (out(kind, 0, 6)) return BAD;
        if (out(i, 0, 15)) return -12;
        Object lies = i < 8 ? (i < trips.size() ? trips.get(i) : null) : (i - 8 < stops.size() ? stops.get(i - 8) : null);
        if (lies == null) return -11;
        if (kind == 6) return lies instanceof Trip t ? t.many : -13;
        return KINDS.get(kind).isInstance(lies) ? i - 8 : -13;
    }
}
