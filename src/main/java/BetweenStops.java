import java.util.Arrays;

/**
 * Between stops: a road, places where a tram may stop, and trips from door to door.
 * The numbered promises of ../shared/DOC.md say what each call does and answers.
 */
public final class BetweenStops {
    public static final int NONE = -1, BAD = -2, STATE = -3, FULL = -4;
    public static final long NO = -4611686018427387904L;

    private static final int NO_SUCH = -5, NO_OTHER = -7;
    private static final int NOTHING_THERE = -11, OUTSIDE = -12, UNLIKE = -13, BELOW_NOUGHT = -14;
    private static final int FAULT = -100;

    private static final int CELLS = 41, HEIGHT_MOST = 9;
    private static final int SORTS = 3, TRAITS = 6;
    private static final int PACE = 0, UP = 1, WALKING = 2, WAITING = 3, RIDING = 4, WALKS_MOST = 5;
    private static final int[] TRAIT_LEAST = {1, 0, 0, 0, 0, 0};
    private static final int[] TRAIT_MOST = {60, 60, 9, 9, 9, 9999};
    private static final int[] TRAITS_AT_FIRST = {
        10, 5, 2, 2, 1, 300,
        15, 20, 3, 2, 1, 200,
        6, 2, 1, 3, 1, 600};
    private static final int EVERY_MOST = 3600, CAR_PACE_MOST = 60;

    private static final int STOPS = 8, TAKES_MOST = 99, MORE_MOST = 60, TENTHS = 10;
    private static final int PLAIN = 0, ASKED = 1, TURN = 2, SHARED = 3, SECOND = 4, TOLD = 5;
    private static final int[] KIND_ABOVE = {PLAIN, PLAIN, PLAIN, PLAIN, TURN, ASKED};
    private static final int CAR_0 = 1, CAR_1 = 2, BOTH = 3;
    private static final int PATTERNS = 3, PATTERNED = 5;

    private static final int TRIPS = 8, MANY_MOST = 99, TRIP_NUMBERS = 4, A_TRIP = 6;
    private static final int NO_STOP = -1, NO_WAY = -1;

    private static final int TAPE = 160, TEXTS = 6, DIGITS_MOST = 4, OPEN_MOST = 5, STACK = 40;
    private static final int STAY_PART = 0, LATE_PART = 1, ASK_PART = 2, PARTS = 3;
    private static final int COST = 0, WALK = 1, WAIT = 2, RIDE = 3, MANY = 4, SORT = 5, NAMES = 6;
    private static final int END = 0, NO_TOKEN = 1, NUMBER = 2, NAME = 3;
    private static final int STAY = 4, LATE = 5, ASK = 6, OR = 7, AND = 8, NOT = 9, NEGATION = 10, NAMES_FROM = 11;
    private static final int OR_LEVEL = 0, AND_LEVEL = 1, LIKE_LEVEL = 2, SUM_LEVEL = 3, TERM_LEVEL = 4, ONE_LEVEL = 5;
    private static final String SIGNS = "();+-*<=";
    private static final String FIRST_LAW = "stay 2000 < cost ; late many * 2 ; ask many ;";
    private static final int LATE_MOST = 999;

    private static final int SECS_MOST = 99999, DROP_MOST = 999999, TOTAL_MOST = 999999999;
    private static final int NO_BOUND = 2147483647;
    private static final int ROUNDS = 20, CARS = 12, START_LATE_MOST = 3600;
    private static final int SEED_MOST = 99999;
    private static final long LOT_FACTOR = 48271L, LOT_MODULUS = 2147483647L;
    private static final int SHEETS = 4, SHEET_MOST = 41, MISSING = -1, BYTES = 0, SHORTS = 1, INTS = 2;

    private final Town town = new Town();
    private final Ways ways = new Ways(town);
    private final Tape tape = new Tape();
    private final Reader reader = new Reader(tape);
    private final Text[] texts = new Text[TEXTS];
    private int textCount = 1;
    private int law = 0;
    private final Image kept = new Image();
    private final Sheet[] sheets = new Sheet[SHEETS];
    // Rows that calls fill anew each time: a call makes no object.
    private final int[] names = new int[NAMES];
    private final int[] costsNow = new int[TRIPS];
    private final int[] homesBehind = new int[ROUNDS + 1];
    private final int[] left = new int[STOPS];
    private final int[] ends = new int[CARS];
    private final int[] wishes = new int[STOPS];

    public BetweenStops() {
        for (int i = 0; i < TEXTS; i++) {
            texts[i] = new Text();
        }
        for (int i = 0; i < SHEETS; i++) {
            sheets[i] = new Sheet();
        }
        for (int i = 0; i < FIRST_LAW.length(); i++) {
            tape.append(FIRST_LAW.charAt(i));
        }
        reader.faultOf(texts[0]);
        tape.size = 0;
    }

    // ---- the road, sorts, cars

    public int road(int c, int h) {
        if (!isWithin(c, 0, CELLS - 1)) {
            return NONE;
        }
        if (!isWithin(h, 0, HEIGHT_MOST)) {
            return BAD;
        }
        int was = town.heights[c];
        town.heights[c] = h;
        town.measureClimbs();
        return was;
    }

    public int sort(int k, int what, int v) {
        if (!isSort(k)) {
            return NONE;
        }
        if (!isWithin(what, 0, TRAITS - 1) || !isWithin(v, TRAIT_LEAST[what], TRAIT_MOST[what])) {
            return BAD;
        }
        int was = town.sorts[k][what];
        town.sorts[k][what] = v;
        return was;
    }

    public int car(int what, int v) {
        int was;
        if (what == 0 && isWithin(v, 1, EVERY_MOST)) {
            was = town.every;
            town.every = v;
        } else if (what == 1 && isWithin(v, 1, CAR_PACE_MOST)) {
            was = town.pace;
            town.pace = v;
        } else {
            was = BAD;
        }
        return was;
    }

    public int walks(int a, int b, int k) {
        if (!isCell(a) || !isCell(b)) {
            return NO_SUCH;
        }
        if (!isSort(k)) {
            return NO_OTHER;
        }
        return town.walkSeconds(a, b, k);
    }

    // ---- stops, trips

    public int stop(int kind, int at, int takes, int more) {
        if (!isKind(kind) || !isCell(at) || !isWithin(takes, 0, TAKES_MOST) || !isWithin(more, 0, MORE_MOST)) {
            return BAD;
        }
        if (town.stopCount >= STOPS) {
            return FULL;
        }
        town.stops[town.stopCount].begin(kind, at, takes, more);
        town.stopCount++;
        return town.stopCount - 1;
    }

    public int open(int p, int is) {
        if (!isStop(p)) {
            return NONE;
        }
        if (!isWithin(is, 0, 1)) {
            return BAD;
        }
        int was = asNumber(town.stops[p].isOpen);
        town.stops[p].isOpen = is == 1;
        return was;
    }

    public int want(int p, int tenths) {
        if (!isStop(p)) {
            return NONE;
        }
        if (!isWithin(tenths, 0, TENTHS)) {
            return BAD;
        }
        int was = town.stops[p].wanted;
        town.stops[p].wanted = tenths;
        return was;
    }

    public int turns(int p, int v) {
        if (!isStop(p)) {
            return NONE;
        }
        if (!isWithin(v, 0, PATTERNS - 1)) {
            return BAD;
        }
        int was = town.stops[p].pattern;
        town.stops[p].pattern = v;
        return was;
    }

    public int told(int p, int what) {
        if (!isStop(p)) {
            return NO_SUCH;
        }
        Stop stop = town.stops[p];
        switch (what) {
            case 0: return stop.kind;
            case 1: return stop.cell;
            case 2: return stop.secondsIf(stop.wanted);
            case 3: return asNumber(stop.isOpen);
            case 4: return stop.wanted;
            case 5: return stop.carsBy(stop.pattern);
            case 6: return asNumber(stop.isOf(ASKED));
            default: return NO_OTHER;
        }
    }

    public int trip(int a, int b, int n, int k) {
        if (!isCell(a) || !isCell(b) || !isWithin(n, 1, MANY_MOST) || !isSort(k)) {
            return BAD;
        }
        if (town.tripCount >= TRIPS) {
            return FULL;
        }
        town.trips[town.tripCount].begin(a, b, n, k);
        town.tripCount++;
        return town.tripCount - 1;
    }

    public int count(int what) {
        switch (what) {
            case 0: return town.stopCount;
            case 1: return town.tripCount;
            case 2: return Integer.bitCount(town.openSet());
            case 3: return textCount;
            case 4: return law;
            case 5: return tape.size;
            case 6: return town.every;
            case 7: return town.pace;
            default: return BAD;
        }
    }

    public int takes(int i, int what) {
        if (!isTrip(i)) {
            return NO_SUCH;
        }
        if (!isWithin(what, 0, 5)) {
            return NO_OTHER;
        }
        lookAtNow();
        switch (what) {
            case 0: return ways.costs[i];
            case 1: return ways.ins[i];
            case 2: return ways.outs[i];
            case 3: return ways.walked[i];
            case 4: return ways.waited[i];
            default: return ways.ridden[i];
        }
    }

    public long sum(int what) {
        if (!isWithin(what, 0, 2)) {
            return NO;
        }
        lookAtNow();
        switch (what) {
            case 0: return ways.total();
            case 1: return ways.dearest();
            default: return ways.dearestCost();
        }
    }

    public int use(int p) {
        if (!isStop(p)) {
            return NO_SUCH;
        }
        lookAtNow();
        return ways.usersOf(p);
    }

    // ---- the law

    public int feed(long w, int n) {
        if (!isWithin(n, 1, 8)) {
            return BAD;
        }
        if (tape.size + n > TAPE) {
            return FULL;
        }
        for (int i = n - 1; i >= 0; i--) {
            tape.append((int) (w >>> (8 * i)) & 255);
        }
        return tape.size;
    }

    public int text() {
        if (textCount >= TEXTS) {
            return FULL;
        }
        int fault = reader.faultOf(texts[textCount]);
        tape.size = 0;
        if (fault >= 0) {
            return FAULT - fault;
        }
        textCount++;
        return textCount - 1;
    }

    public int force(int t) {
        if (!isWithin(t, 0, textCount - 1)) {
            return BAD;
        }
        int was = law;
        law = t;
        return was;
    }

    // ---- sets of stops

    public long best(int what) {
        if (!isWithin(what, 0, 1)) {
            return NO;
        }
        ways.measure();
        int set = bestSet(NO_BOUND, NO_BOUND);
        return what == 0 ? set : totalOf(set);
    }

    public int bound(int secs) {
        if (!isWithin(secs, 0, SECS_MOST)) {
            return BAD;
        }
        ways.measure();
        return bestSet(secs, NO_BOUND);
    }

    public int least(int drop) {
        if (!isWithin(drop, 0, DROP_MOST)) {
            return BAD;
        }
        lookAtNow();
        keepCosts();
        return bestSet(NO_BOUND, drop);
    }

    public int fair() {
        ways.measure();
        int found = 0;
        int least = NO_BOUND;
        for (int set = 0; set < town.setCount(); set++) {
            ways.look(set, town.every);
            if (ways.dearestCost() < least) {
                least = ways.dearestCost();
                found = set;
            }
        }
        return found;
    }

    public int fewest(int most) {
        if (!isWithin(most, 0, TOTAL_MOST)) {
            return BAD;
        }
        ways.measure();
        int found = -1;
        int stops = STOPS + 1;
        for (int set = 0; set < town.setCount(); set++) {
            if (Integer.bitCount(set) < stops && totalOf(set) <= most) {
                found = set;
                stops = Integer.bitCount(set);
            }
        }
        return found;
    }

    public int judge(int s) {
        if (!isSheet(s)) {
            return BAD;
        }
        Sheet sheet = sheets[s];
        if (sheet.isMissing()) {
            return NOTHING_THERE;
        }
        if (sheet.size != town.stopCount) {
            return BAD;
        }
        int set = 0;
        for (int p = 0; p < town.stopCount; p++) {
            if (!isWithin(sheet.row[p], 0, 1)) {
                return BAD;
            }
            set |= sheet.row[p] << p;
        }
        ways.measure();
        ways.look(set, town.every);
        for (int t = 0; t < town.tripCount; t++) {
            if (ways.walked[t] > town.sorts[town.trips[t].sort][WALKS_MOST]) {
                return t;
            }
        }
        return -1;
    }

    public long patterns(int what) {
        if (!isWithin(what, 0, 1)) {
            return NO;
        }
        ways.measure();
        int stops = Math.min(PATTERNED, town.stopCount);
        int choices = 1;
        for (int p = 0; p < stops; p++) {
            choices *= PATTERNS;
        }
        long digits = 0;
        long least = NO;
        for (int choice = 0; choice < choices; choice++) {
            int asDigits = takePatterns(stops, choice);
            long total = totalOf(town.openSet());
            if (least == NO || total < least) {
                least = total;
                digits = asDigits;
            }
        }
        return what == 0 ? digits : least;
    }

    // ---- one stop more or less

    public long bench(int p, int what) {
        if (!isStop(p) || !isWithin(what, 0, 3)) {
            return NO;
        }
        lookAtNow();
        keepCosts();
        long totalNow = ways.total();
        ways.look(town.openSet() ^ (1 << p), town.every);
        switch (what) {
            case 0: return ways.total() - totalNow;
            case 1: return peopleWhoPayMore(1);
            case 2: return peopleWhoPayMore(-1);
            default: return mostPaidMore();
        }
    }

    public int give() {
        ways.measure();
        return givenUpOf(town.openSet());
    }

    public int order(int n) {
        if (!isWithin(n, 0, STOPS)) {
            return BAD;
        }
        ways.measure();
        int set = town.openSet();
        int digits = 0;
        for (int i = 0; i < n && set != 0; i++) {
            int p = givenUpOf(set);
            set &= ~(1 << p);
            digits = digits * 10 + p + 1;
        }
        return digits;
    }

    public int thins() {
        ways.measure();
        int given = 0;
        for (int i = 0; i < STOPS; i++) {
            int set = town.openSet();
            int p = givenUpOf(set);
            if (p == NO_STOP || totalOf(set & ~(1 << p)) > totalOf(set)) {
                break;
            }
            town.stops[p].isOpen = false;
            given++;
        }
        return given;
    }

    public long across(int p) {
        if (!isStop(p) || town.stops[p].kind != SHARED) {
            return NO;
        }
        lookAtNow();
        long totalNow = ways.total();
        ways.seconds[p] = town.stops[p].takes;
        return totalNow - totalOf(town.openSet());
    }

    // ---- who stays home, who asks

    public int homes() {
        ways.measure();
        return homesIf(town.every);
    }

    public int round(int n) {
        if (!isWithin(n, 0, ROUNDS)) {
            return BAD;
        }
        goRounds(n);
        return homesBehind[n];
    }

    public int rest(int what) {
        if (!isWithin(what, 0, 2)) {
            return BAD;
        }
        goRounds(ROUNDS);
        for (int again = 1; again <= ROUNDS; again++) {
            for (int first = 0; first < again; first++) {
                if (homesBehind[first] == homesBehind[again]) {
                    return what == 0 ? homesBehind[first] : what == 1 ? first : again - first;
                }
            }
        }
        return STATE;
    }

    public int asks(int p) {
        if (!isStop(p)) {
            return NO_SUCH;
        }
        lookAtNow();
        return wantedNow(p);
    }

    public int asked() {
        lookAtNow();
        // All of them are told first: what one is wanted changes the best ways of the others' people.
        for (int p = 0; p < town.stopCount; p++) {
            wishes[p] = wantedNow(p);
        }
        int otherwise = 0;
        for (int p = 0; p < town.stopCount; p++) {
            if (town.stops[p].wanted != wishes[p]) {
                town.stops[p].wanted = wishes[p];
                otherwise++;
            }
        }
        return otherwise;
    }

    // ---- cars one behind the other, days

    public int bunch(int k, int late) {
        if (!isWithin(k, 0, CARS - 1) || !isWithin(late, 0, START_LATE_MOST)) {
            return BAD;
        }
        runCars(k + 1, late);
        return ends[k];
    }

    public int crowd(int cars, int late) {
        if (!isWithin(cars, 2, CARS) || !isWithin(late, 0, START_LATE_MOST)) {
            return BAD;
        }
        runCars(cars, late);
        int least = ends[1] - ends[0];
        for (int k = 2; k < cars; k++) {
            least = Math.min(least, ends[k] - ends[k - 1]);
        }
        return least;
    }

    public int drawn(int i, int seed) {
        if (!isTrip(i)) {
            return NO_SUCH;
        }
        if (!isWithin(seed, 0, SEED_MOST)) {
            return NO_OTHER;
        }
        lookAtNow();
        if (!isStop(ways.ins[i]) || !isStop(ways.outs[i])) {
            return STATE;
        }
        return drawnRide(ways.ins[i], ways.outs[i], seed);
    }

    public int image() {
        kept.keep(town, law);
        return town.stopCount;
    }

    public int back() {
        if (!kept.isThere) {
            return STATE;
        }
        kept.giveBack(town);
        law = kept.law;
        return town.stopCount;
    }

    // ---- the host

    public int sheet(int s, int sort, int n) {
        if (!isSheet(s) || !isWithin(sort, MISSING, INTS)) {
            return BAD;
        }
        if (sort != MISSING && n > SHEET_MOST) {
            return BAD;
        }
        if (sort != MISSING && n < 0) {
            return BELOW_NOUGHT;
        }
        sheets[s].begin(sort, sort == MISSING ? 0 : n);
        return 1;
    }

    public int cell(int s, int i, int v) {
        if (!isSheet(s)) {
            return BAD;
        }
        if (sheets[s].isMissing()) {
            return NOTHING_THERE;
        }
        if (!sheets[s].holds(i)) {
            return OUTSIDE;
        }
        sheets[s].write(i, v);
        return 1;
    }

    public int copy(int s, int i, int other, int j, int n) {
        if (!isSheet(s) || !isSheet(other)) {
            return BAD;
        }
        Sheet from = sheets[s];
        Sheet to = sheets[other];
        if (from.isMissing() || to.isMissing()) {
            return NOTHING_THERE;
        }
        if (from.sort != to.sort) {
            return UNLIKE;
        }
        if (!from.holdsRow(i, n) || !to.holdsRow(j, n)) {
            return OUTSIDE;
        }
        System.arraycopy(from.row, i, to.row, j, n);
        return n;
    }

    public int tripsBy(int s, int sort, int at, int n) {
        if (!isSheet(s) || !isWithin(sort, BYTES, INTS) || !isWithin(n, 0, TRIPS)) {
            return BAD;
        }
        Sheet sheet = sheets[s];
        if (sheet.isMissing()) {
            return NOTHING_THERE;
        }
        if (sheet.sort != sort) {
            return UNLIKE;
        }
        int came = 0;
        for (int i = 0; i < n; i++) {
            int from = at + i * TRIP_NUMBERS;
            if (!sheet.holdsRow(from, TRIP_NUMBERS)) {
                return OUTSIDE;
            }
            if (trip(sheet.row[from], sheet.row[from + 1], sheet.row[from + 2], sheet.row[from + 3]) >= 0) {
                came++;
            }
        }
        return came;
    }

    public int taken(int i, int kind) {
        if (!isKind(kind) && kind != A_TRIP) {
            return BAD;
        }
        if (!isWithin(i, 0, TRIPS + STOPS - 1)) {
            return OUTSIDE;
        }
        if (i < TRIPS) {
            if (!isTrip(i)) {
                return NOTHING_THERE;
            }
            return kind == A_TRIP ? town.trips[i].many : UNLIKE;
        }
        int p = i - TRIPS;
        if (!isStop(p)) {
            return NOTHING_THERE;
        }
        return kind != A_TRIP && town.stops[p].isOf(kind) ? p : UNLIKE;
    }

    // ---- numbers as told

    private static boolean isWithin(int v, int least, int most) {
        return v >= least && v <= most;
    }

    private static int atBounds(int v, int least, int most) {
        return Math.max(least, Math.min(most, v));
    }

    private static boolean isCell(int c) {
        return isWithin(c, 0, CELLS - 1);
    }

    private static boolean isSort(int k) {
        return isWithin(k, 0, SORTS - 1);
    }

    private static boolean isKind(int kind) {
        return isWithin(kind, PLAIN, TOLD);
    }

    private static boolean isSheet(int s) {
        return isWithin(s, 0, SHEETS - 1);
    }

    private boolean isStop(int p) {
        return isWithin(p, 0, town.stopCount - 1);
    }

    private boolean isTrip(int i) {
        return isWithin(i, 0, town.tripCount - 1);
    }

    private static int asNumber(boolean is) {
        return is ? 1 : 0;
    }

    // ---- looking at sets

    private void lookAtNow() {
        ways.measure();
        ways.look(town.openSet(), town.every);
    }

    private long totalOf(int set) {
        ways.look(set, town.every);
        return ways.total();
    }

    private void keepCosts() {
        System.arraycopy(ways.costs, 0, costsNow, 0, TRIPS);
    }

    private int bestSet(int walkMost, int dropMost) {
        int found = -1;
        long least = 0;
        for (int set = 0; set < town.setCount(); set++) {
            long total = totalOf(set);
            if (!walksAtMost(walkMost) || !dropsAtMost(dropMost)) {
                continue;
            }
            boolean isFewer = total == least && Integer.bitCount(set) < Integer.bitCount(found);
            if (found < 0 || total < least || isFewer) {
                found = set;
                least = total;
            }
        }
        return found;
    }

    private boolean walksAtMost(int walkMost) {
        for (int t = 0; t < town.tripCount; t++) {
            if (ways.walked[t] > walkMost) {
                return false;
            }
        }
        return true;
    }

    private boolean dropsAtMost(int dropMost) {
        for (int t = 0; dropMost != NO_BOUND && t < town.tripCount; t++) {
            if (ways.costs[t] - costsNow[t] > dropMost) {
                return false;
            }
        }
        return true;
    }

    /** Lets the first stops be run by the patterns that a number to the base 3 tells; the same as decimal digits. */
    private int takePatterns(int stops, int choice) {
        int digits = 0;
        int place = 1;
        int rest = choice;
        for (int p = stops - 1; p >= 0; p--) {
            int pattern = rest % PATTERNS;
            rest /= PATTERNS;
            ways.cars[p] = town.stops[p].carsBy(pattern);
            digits += pattern * place;
            place *= 10;
        }
        return digits;
    }

    // ---- one stop more or less

    /** How many people's cost went from what was kept in this direction (1 up, -1 down). */
    private int peopleWhoPayMore(int direction) {
        int people = 0;
        for (int t = 0; t < town.tripCount; t++) {
            if ((ways.costs[t] - costsNow[t]) * direction > 0) {
                people += town.trips[t].many;
            }
        }
        return people;
    }

    private int mostPaidMore() {
        int most = 0;
        for (int t = 0; t < town.tripCount; t++) {
            most = Math.max(most, ways.costs[t] - costsNow[t]);
        }
        return most;
    }

    private int givenUpOf(int set) {
        int found = NO_STOP;
        long least = 0;
        for (int p = 0; p < town.stopCount; p++) {
            if ((set & (1 << p)) == 0) {
                continue;
            }
            long total = totalOf(set & ~(1 << p));
            if (found == NO_STOP || total < least) {
                found = p;
                least = total;
            }
        }
        return found;
    }

    // ---- what the law says

    private int homesIf(int every) {
        ways.look(town.openSet(), every);
        int homes = 0;
        for (int t = 0; t < town.tripCount; t++) {
            names[COST] = ways.costs[t];
            names[WALK] = ways.walked[t];
            names[WAIT] = ways.waited[t];
            names[RIDE] = ways.ridden[t];
            names[MANY] = town.trips[t].many;
            names[SORT] = town.trips[t].sort;
            if (texts[law].valueOf(STAY_PART, names) != 0) {
                homes |= 1 << t;
            }
        }
        return homes;
    }

    private void goRounds(int n) {
        ways.measure();
        homesBehind[0] = 0;
        int all = town.peopleBut(0);
        for (int r = 1; r <= n && r <= ROUNDS; r++) {
            int went = Math.max(1, town.peopleBut(homesBehind[r - 1]));
            homesBehind[r] = homesIf(atBounds(town.every * all / went, 1, EVERY_MOST));
        }
    }

    private int wantedNow(int p) {
        if (!town.stops[p].isOf(ASKED)) {
            return town.stops[p].wanted;
        }
        nameStop(p, 0, ways.usersOf(p));
        return atBounds(texts[law].valueOf(ASK_PART, names), 0, TENTHS);
    }

    private void nameStop(int p, int waited, int many) {
        Arrays.fill(names, 0);
        names[WAIT] = waited;
        names[MANY] = many;
        names[SORT] = p;
    }

    // ---- cars one behind the other, days

    private void runCars(int cars, int late) {
        lookAtNow();
        Arrays.fill(left, -town.every);
        for (int k = 0; k < cars && k < CARS; k++) {
            ends[k] = endOf(k, k == 0 ? late : k * town.every);
        }
    }

    private int endOf(int k, int start) {
        int time = start;
        for (int cell = 0; cell < CELLS; cell++) {
            time += cell == 0 ? 0 : town.pace;
            for (int p = 0; p < town.stopCount; p++) {
                if (town.stops[p].cell == cell && stopsNow(k % 2, p)) {
                    time = leave(p, time);
                }
            }
        }
        return time;
    }

    private boolean stopsNow(int car, int p) {
        return town.stops[p].isOpen && (ways.cars[p] & (1 << car)) != 0;
    }

    private int leave(int p, int comes) {
        int there = Math.max(comes, left[p]);
        int waited = there - left[p];
        nameStop(p, waited, ways.usersOf(p) * waited / Math.max(1, town.every));
        left[p] = there + ways.seconds[p] + atBounds(texts[law].valueOf(LATE_PART, names), 0, LATE_MOST);
        return left[p];
    }

    private int drawnRide(int in, int out, int seed) {
        long lot = nextLot(seed + 1);
        int common = ways.cars[in] & ways.cars[out];
        int car = common == BOTH ? (int) (lot % 2) : common == CAR_1 ? 1 : 0;
        int low = Math.min(town.stops[in].cell, town.stops[out].cell);
        int high = Math.max(town.stops[in].cell, town.stops[out].cell);
        int ride = (high - low) * town.pace;
        for (int p = 0; p < town.stopCount; p++) {
            lot = nextLot(lot);
            Stop stop = town.stops[p];
            if (stop.cell > low && stop.cell < high && stopsNow(car, p)) {
                ride += stop.secondsDrawn((int) (lot % TENTHS));
            }
        }
        return ride;
    }

    private static long nextLot(long lot) {
        return lot * LOT_FACTOR % LOT_MODULUS;
    }

    /** A place where a car may stop. */
    private static final class Stop {
        int kind;
        int kindAbove;
        int cell;
        int takes;
        int more;
        boolean isOpen;
        int wanted;
        int pattern;

        void begin(int newKind, int newCell, int newTakes, int newMore) {
            kind = newKind;
            kindAbove = isKind(newKind) ? KIND_ABOVE[newKind] : PLAIN;
            cell = newCell;
            takes = newTakes;
            more = newMore;
            isOpen = true;
            wanted = 5;
            pattern = 0;
        }

        boolean isOf(int other) {
            return other == kind || other == kindAbove || other == PLAIN;
        }

        int secondsIf(int tenths) {
            switch (kind) {
                case ASKED: return takes * tenths / TENTHS;
                case SHARED: return takes + more;
                case SECOND: return takes / 2;
                case TOLD: return takes * tenths / TENTHS + more;
                default: return takes;
            }
        }

        int secondsDrawn(int tenth) {
            if (!isOf(ASKED)) {
                return secondsIf(wanted);
            }
            return tenth < wanted ? secondsIf(TENTHS) : 0;
        }

        int carsBy(int somePattern) {
            return carsServed() & (somePattern == 0 ? BOTH : somePattern);
        }

        private int carsServed() {
            if (!isOf(TURN)) {
                return BOTH;
            }
            int turn = more % 2 == 0 ? CAR_0 : CAR_1;
            return kind == SECOND ? BOTH - turn : turn;
        }
    }

    /** People who go from door to door. */
    private static final class Trip {
        int from;
        int to;
        int many;
        int sort;

        void begin(int newFrom, int newTo, int newMany, int newSort) {
            from = newFrom;
            to = newTo;
            many = newMany;
            sort = newSort;
        }
    }

    /** The road, sorts of people, cars, stops and trips: all that the best ways depend on. */
    private static final class Town {
        final int[] heights = new int[CELLS];
        // Steps up on the way from cell 0 to a cell, and from there to cell 0: a walk's are the difference of two.
        final int[] climbsOut = new int[CELLS];
        final int[] climbsHome = new int[CELLS];
        final int[][] sorts = new int[SORTS][TRAITS];
        int every = 300;
        int pace = 3;
        final Stop[] stops = new Stop[STOPS];
        int stopCount = 0;
        final Trip[] trips = new Trip[TRIPS];
        int tripCount = 0;

        Town() {
            for (int k = 0; k < SORTS; k++) {
                System.arraycopy(TRAITS_AT_FIRST, k * TRAITS, sorts[k], 0, TRAITS);
            }
            for (int p = 0; p < STOPS; p++) {
                stops[p] = new Stop();
            }
            for (int t = 0; t < TRIPS; t++) {
                trips[t] = new Trip();
            }
        }

        void measureClimbs() {
            for (int c = 1; c < CELLS; c++) {
                int step = heights[c] - heights[c - 1];
                climbsOut[c] = climbsOut[c - 1] + Math.max(0, step);
                climbsHome[c] = climbsHome[c - 1] + Math.max(0, -step);
            }
        }

        int walkSeconds(int from, int to, int k) {
            int climbs = from < to ? climbsOut[to] - climbsOut[from] : climbsHome[from] - climbsHome[to];
            return Math.abs(to - from) * sorts[k][PACE] + climbs * sorts[k][UP];
        }

        int openSet() {
            int set = 0;
            for (int p = 0; p < stopCount; p++) {
                set |= asNumber(stops[p].isOpen) << p;
            }
            return set;
        }

        int setCount() {
            return 1 << stopCount;
        }

        int peopleBut(int homes) {
            int people = 0;
            for (int t = 0; t < tripCount; t++) {
                people += (homes & (1 << t)) == 0 ? trips[t].many : 0;
            }
            return people;
        }
    }

    /** The best ways of all trips: measure() once a call, then look() at one set of open stops after the other. */
    private static final class Ways {
        final Town town;
        final int[] cars = new int[STOPS];
        final int[] seconds = new int[STOPS];
        final int[] direct = new int[TRIPS];
        final int[][] toStop = new int[TRIPS][STOPS];
        final int[][] fromStop = new int[TRIPS][STOPS];
        final int[] members = new int[STOPS];
        int memberCount = 0;
        final int[][] stood = new int[2][CELLS + 1];
        final int[][] waits = new int[STOPS][STOPS];
        final int[][] rides = new int[STOPS][STOPS];
        final int[] costs = new int[TRIPS];
        final int[] ins = new int[TRIPS];
        final int[] outs = new int[TRIPS];
        final int[] walked = new int[TRIPS];
        final int[] waited = new int[TRIPS];
        final int[] ridden = new int[TRIPS];

        Ways(Town town) {
            this.town = town;
        }

        void measure() {
            for (int p = 0; p < town.stopCount; p++) {
                cars[p] = town.stops[p].carsBy(town.stops[p].pattern);
                seconds[p] = town.stops[p].secondsIf(town.stops[p].wanted);
            }
            for (int t = 0; t < town.tripCount; t++) {
                Trip trip = town.trips[t];
                direct[t] = town.walkSeconds(trip.from, trip.to, trip.sort);
                for (int p = 0; p < town.stopCount; p++) {
                    toStop[t][p] = town.walkSeconds(trip.from, town.stops[p].cell, trip.sort);
                    fromStop[t][p] = town.walkSeconds(town.stops[p].cell, trip.to, trip.sort);
                }
            }
        }

        void look(int set, int every) {
            memberCount = 0;
            for (int p = 0; p < town.stopCount; p++) {
                if ((set & (1 << p)) != 0) {
                    members[memberCount] = p;
                    memberCount++;
                }
            }
            addUpStanding(0);
            addUpStanding(1);
            for (int i = 0; i < memberCount; i++) {
                for (int j = i + 1; j < memberCount; j++) {
                    ride(members[i], members[j], every);
                }
            }
            for (int t = 0; t < town.tripCount; t++) {
                findBest(t);
            }
        }

        /** How long a car stands in all cells below each one. */
        private void addUpStanding(int car) {
            int[] below = stood[car];
            Arrays.fill(below, 0);
            for (int i = 0; i < memberCount; i++) {
                int p = members[i];
                if ((cars[p] & (1 << car)) != 0) {
                    below[town.stops[p].cell + 1] += seconds[p];
                }
            }
            for (int c = 1; c <= CELLS; c++) {
                below[c] += below[c - 1];
            }
        }

        /** Waiting and riding between two stops: a car takes as long there as back. */
        private void ride(int p, int q, int every) {
            int common = cars[p] & cars[q];
            int wait = NO_WAY;
            int riding = 0;
            if (common == BOTH) {
                wait = every / 2;
                riding = (carTime(0, p, q) + carTime(1, p, q)) / 2;
            } else if (common != 0) {
                wait = every;
                riding = carTime(common == CAR_0 ? 0 : 1, p, q);
            }
            waits[p][q] = wait;
            waits[q][p] = wait;
            rides[p][q] = riding;
            rides[q][p] = riding;
        }

        private int carTime(int car, int p, int q) {
            int low = Math.min(town.stops[p].cell, town.stops[q].cell);
            int high = Math.max(town.stops[p].cell, town.stops[q].cell);
            if (low == high) {
                return 0;
            }
            return (high - low) * town.pace + stood[car][high] - stood[car][low + 1];
        }

        private void findBest(int t) {
            int[] worth = town.sorts[town.trips[t].sort];
            costs[t] = direct[t] * worth[WALKING];
            ins[t] = NO_STOP;
            outs[t] = NO_STOP;
            for (int i = 0; i < memberCount; i++) {
                int p = members[i];
                for (int j = 0; j < memberCount; j++) {
                    int q = members[j];
                    if (p == q || waits[p][q] == NO_WAY) {
                        continue;
                    }
                    int cost = (toStop[t][p] + fromStop[t][q]) * worth[WALKING]
                        + waits[p][q] * worth[WAITING] + rides[p][q] * worth[RIDING];
                    if (cost < costs[t]) {
                        costs[t] = cost;
                        ins[t] = p;
                        outs[t] = q;
                    }
                }
            }
            tellBest(t, ins[t], outs[t]);
        }

        private void tellBest(int t, int in, int out) {
            boolean rideIt = in != NO_STOP && out != NO_STOP;
            walked[t] = rideIt ? toStop[t][in] + fromStop[t][out] : direct[t];
            waited[t] = rideIt ? waits[in][out] : 0;
            ridden[t] = rideIt ? rides[in][out] : 0;
        }

        long total() {
            long total = 0;
            for (int t = 0; t < town.tripCount; t++) {
                total += (long) town.trips[t].many * costs[t];
            }
            return total;
        }

        int dearest() {
            int found = -1;
            for (int t = 0; t < town.tripCount; t++) {
                if (found < 0 || costs[t] > costs[found]) {
                    found = t;
                }
            }
            return found;
        }

        int dearestCost() {
            int found = dearest();
            return found < 0 ? 0 : costs[found];
        }

        int usersOf(int p) {
            int people = 0;
            for (int t = 0; t < town.tripCount; t++) {
                if (ins[t] == p || outs[t] == p) {
                    people += town.trips[t].many;
                }
            }
            return people;
        }
    }

    /** The bytes that were fed, and the token that is read from them. */
    private static final class Tape {
        final int[] bytes = new int[TAPE];
        int size = 0;
        int token = END;
        int start = 0;
        int behind = 0;
        int number = 0;

        void append(int b) {
            if (size < TAPE) {
                bytes[size] = b;
                size++;
            }
        }

        void rewind() {
            behind = 0;
            advance();
        }

        void advance() {
            for (; behind < size && isBlank(bytes[behind]); behind++) {
                continue;
            }
            start = behind;
            if (start >= size) {
                token = END;
            } else if (isLetter(bytes[start])) {
                readWord();
            } else if (isDigit(bytes[start])) {
                readNumber();
            } else {
                token = SIGNS.indexOf((char) bytes[start]) >= 0 ? bytes[start] : NO_TOKEN;
                behind++;
            }
        }

        private void readWord() {
            for (; behind < size && isLetter(bytes[behind]); behind++) {
                continue;
            }
            int word = isWord("stay") ? STAY
                : isWord("late") ? LATE
                : isWord("ask") ? ASK
                : isWord("or") ? OR
                : isWord("and") ? AND
                : isWord("not") ? NOT
                : isWord("cost") ? NAMES_FROM + COST
                : isWord("walk") ? NAMES_FROM + WALK
                : isWord("wait") ? NAMES_FROM + WAIT
                : isWord("ride") ? NAMES_FROM + RIDE
                : isWord("many") ? NAMES_FROM + MANY
                : isWord("sort") ? NAMES_FROM + SORT
                : NO_TOKEN;
            token = word >= NAMES_FROM ? NAME : word;
            number = word - NAMES_FROM;
        }

        private void readNumber() {
            number = 0;
            for (; behind < size && isDigit(bytes[behind]); behind++) {
                // Past the digits that a number may have its value no longer matters.
                number = behind - start < DIGITS_MOST ? number * 10 + bytes[behind] - '0' : number;
            }
            token = behind - start > DIGITS_MOST ? NO_TOKEN : NUMBER;
        }

        private boolean isWord(String word) {
            if (behind - start != word.length()) {
                return false;
            }
            for (int i = 0; i < word.length(); i++) {
                if (bytes[start + i] != word.charAt(i)) {
                    return false;
                }
            }
            return true;
        }

        private static boolean isBlank(int b) {
            return b == 32 || b == 10;
        }

        private static boolean isLetter(int b) {
            return b >= 'a' && b <= 'z';
        }

        private static boolean isDigit(int b) {
            return b >= '0' && b <= '9';
        }
    }

    /**
     * Reads a text from the tape. As it refuses the first token that can't stand where it is, the token that the
     * tape is at is the fault.
     */
    private static final class Reader {
        final Tape tape;

        Reader(Tape tape) {
            this.tape = tape;
        }

        /** The place of the fault; -1: there is none. */
        int faultOf(Text text) {
            text.clear();
            tape.rewind();
            for (int key = STAY; key <= ASK; key++) {
                if (!passes(key) || !readLevel(text, OR_LEVEL, 0) || !passes(';')) {
                    return tape.start;
                }
                text.endPart();
            }
            return tape.token == END ? -1 : tape.start;
        }

        private boolean passes(int token) {
            if (tape.token != token) {
                return false;
            }
            tape.advance();
            return true;
        }

        /** Reads what the signs of one level join; open: how many ( not - are open around it. */
        private boolean readLevel(Text text, int level, int open) {
            if (level == ONE_LEVEL) {
                return readOne(text, open);
            }
            if (level == LIKE_LEVEL && tape.token == NOT) {
                return readBehind(text, NOT, LIKE_LEVEL, open);
            }
            if (!readLevel(text, level + 1, open)) {
                return false;
            }
            int most = level == LIKE_LEVEL ? 1 : TAPE;
            for (int i = 0; i < most && joinsAt(level, tape.token); i++) {
                int sign = tape.token;
                tape.advance();
                if (!readLevel(text, level + 1, open)) {
                    return false;
                }
                text.addSign(sign);
            }
            return true;
        }

        private boolean readOne(Text text, int open) {
            switch (tape.token) {
                case NUMBER:
                    text.addNumber(tape.number);
                    tape.advance();
                    return true;
                case NAME:
                    text.addName(tape.number);
                    tape.advance();
                    return true;
                case '-':
                    return readBehind(text, NEGATION, ONE_LEVEL, open);
                case '(':
                    return readInside(text, open);
                default:
                    return false;
            }
        }

        private boolean readBehind(Text text, int sign, int level, int open) {
            if (open >= OPEN_MOST) {
                return false;
            }
            tape.advance();
            if (!readLevel(text, level, open + 1)) {
                return false;
            }
            text.addSign(sign);
            return true;
        }

        private boolean readInside(Text text, int open) {
            if (open >= OPEN_MOST) {
                return false;
            }
            tape.advance();
            return readLevel(text, OR_LEVEL, open + 1) && passes(')');
        }

        private static boolean joinsAt(int level, int token) {
            switch (level) {
                case OR_LEVEL: return token == OR;
                case AND_LEVEL: return token == AND;
                case LIKE_LEVEL: return token == '<' || token == '=';
                case SUM_LEVEL: return token == '+' || token == '-';
                case TERM_LEVEL: return token == '*';
                default: return false;
            }
        }
    }

    /** What a text says, its signs behind what they join: a number as itself, names and signs below 0. */
    private static final class Text {
        final int[] codes = new int[TAPE];
        final int[] partEnds = new int[PARTS];
        final int[] stack = new int[STACK];
        int size = 0;
        int parts = 0;

        void clear() {
            size = 0;
            parts = 0;
        }

        void addNumber(int number) {
            add(number);
        }

        void addName(int name) {
            add(-1 - name);
        }

        void addSign(int sign) {
            add(-1 - NAMES - sign);
        }

        void endPart() {
            if (parts < PARTS) {
                partEnds[parts] = size;
                parts++;
            }
        }

        private void add(int code) {
            if (size < TAPE) {
                codes[size] = code;
                size++;
            }
        }

        int valueOf(int part, int[] names) {
            if (part < 0 || part >= parts) {
                return 0;
            }
            int height = 0;
            for (int i = part == 0 ? 0 : partEnds[part - 1]; i < partEnds[part]; i++) {
                height = step(codes[i], height, names);
            }
            return height == 1 ? stack[0] : 0;
        }

        /** One code more: how high the stack is then. */
        private int step(int code, int height, int[] names) {
            if (code >= -NAMES) {
                if (height >= STACK) {
                    return height;
                }
                stack[height] = code >= 0 ? code : names[-1 - code];
                return height + 1;
            }
            int sign = -1 - NAMES - code;
            if (sign == NOT || sign == NEGATION) {
                if (height >= 1) {
                    stack[height - 1] = sign == NOT ? asNumber(stack[height - 1] == 0) : -stack[height - 1];
                }
                return height;
            }
            if (height < 2) {
                return height;
            }
            stack[height - 2] = joined(sign, stack[height - 2], stack[height - 1]);
            return height - 1;
        }

        private static int joined(int sign, int a, int b) {
            switch (sign) {
                case OR: return a != 0 || b != 0 ? 1 : 0;
                case AND: return a != 0 && b != 0 ? 1 : 0;
                case '<': return a < b ? 1 : 0;
                case '=': return a == b ? 1 : 0;
                case '+': return a + b;
                case '-': return a - b;
                default: return a * b;
            }
        }
    }

    /** What image() keeps. */
    private static final class Image {
        boolean isThere = false;
        int law;
        private final int[] heights = new int[CELLS];
        private final int[][] sorts = new int[SORTS][TRAITS];
        private int every;
        private int pace;
        private int stopCount;
        private final boolean[] isOpen = new boolean[STOPS];
        private final int[] wanted = new int[STOPS];
        private final int[] patterns = new int[STOPS];
        private int tripCount;

        void keep(Town town, int lawNow) {
            isThere = true;
            law = lawNow;
            System.arraycopy(town.heights, 0, heights, 0, CELLS);
            for (int k = 0; k < SORTS; k++) {
                System.arraycopy(town.sorts[k], 0, sorts[k], 0, TRAITS);
            }
            every = town.every;
            pace = town.pace;
            stopCount = town.stopCount;
            for (int p = 0; p < stopCount; p++) {
                isOpen[p] = town.stops[p].isOpen;
                wanted[p] = town.stops[p].wanted;
                patterns[p] = town.stops[p].pattern;
            }
            tripCount = town.tripCount;
        }

        void giveBack(Town town) {
            System.arraycopy(heights, 0, town.heights, 0, CELLS);
            town.measureClimbs();
            for (int k = 0; k < SORTS; k++) {
                System.arraycopy(sorts[k], 0, town.sorts[k], 0, TRAITS);
            }
            town.every = every;
            town.pace = pace;
            for (int p = 0; p < stopCount; p++) {
                town.stops[p].isOpen = isOpen[p];
                town.stops[p].wanted = wanted[p];
                town.stops[p].pattern = patterns[p];
            }
            town.tripCount = tripCount;
        }
    }

    /** A row of numbers of one sort, or missing. */
    private static final class Sheet {
        final int[] row = new int[SHEET_MOST];
        int sort = MISSING;
        int size = 0;

        void begin(int newSort, int newSize) {
            sort = newSort;
            size = newSize;
            Arrays.fill(row, 0);
        }

        boolean isMissing() {
            return sort == MISSING;
        }

        boolean holds(int i) {
            return i >= 0 && i < size;
        }

        /** Subtracts: a sum of the two could turn below 0. */
        boolean holdsRow(int from, int n) {
            return from >= 0 && n >= 0 && from <= size && n <= size - from;
        }

        void write(int i, int v) {
            row[i] = sort == BYTES ? (byte) v : sort == SHORTS ? (short) v : v;
        }
    }
}
