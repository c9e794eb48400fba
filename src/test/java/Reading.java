/** All that can be seen of an object, as a text; the object is spent by it. It takes some 400 calls. */
final class Reading {
    private final BetweenStops x;
    private final StringBuilder seen = new StringBuilder();

    private Reading(BetweenStops x) {
        this.x = x;
    }

    static String of(BetweenStops x) {
        Reading r = new Reading(x);
        r.counts();
        r.stops();
        r.trips();
        r.judged();
        r.tape();
        r.land();
        r.seen.append("\nback ").append(x.back());
        r.counts();
        r.stops();
        r.land();
        for (int s = 0; s < 4; s++) {
            r.sheet(s);
        }
        return r.seen.toString();
    }

    private void add(long v) {
        seen.append(' ').append(v);
    }

    private void counts() {
        seen.append("\ncounts");
        for (int what = 0; what < 8; what++) {
            add(x.count(what));
        }
    }

    private void stops() {
        seen.append("\nstops");
        for (int p = 0; p < x.count(0); p++) {
            for (int what = 0; what < 6; what++) {
                add(x.told(p, what));
            }
        }
    }

    private void trips() {
        seen.append("\ntrips");
        for (int i = 0; i < x.count(1); i++) {
            add(x.taken(i, 6));
            for (int what = 0; what < 3; what++) {
                add(x.takes(i, what));
            }
        }
        add(x.homes());
        add(x.round(2));
        add(x.bunch(3, 9));
    }

    private void judged() {
        seen.append("\njudged");
        for (int s = 0; s < 4; s++) {
            add(x.judge(s));
        }
    }

    /** What stands on the tape, as a text's end stands behind it. */
    private void tape() {
        seen.append("\ntape");
        x.feed('3' << 8 | ';', 2);
        add(x.text());
        add(x.force(x.count(3) - 1));
        add(x.homes());
        add(x.bunch(0, 0));
        add(x.asks(1));
    }

    private void land() {
        seen.append("\nland");
        for (int c = 0; c <= 40; c++) {
            add(x.road(c, 0));
        }
        for (int k = 0; k < 3; k++) {
            for (int what = 0; what < 6; what++) {
                add(x.sort(k, what, 1));
            }
        }
    }

    /** Its sort, its size, and the trips that it tells of. */
    private void sheet(int s) {
        seen.append("\nsheet ").append(s);
        int sort = 0;
        while (sort < 2 && x.tripsBy(s, sort, 0, 0) < 0) {
            sort++;
        }
        add(x.tripsBy(s, sort, 0, 0) == 0 ? sort : -1);
        int low = -1;
        for (int step = 32; step > 0; step /= 2) {
            low += x.copy(s, low + step, s, low + step, 0) == 0 ? step : 0;
        }
        add(low);
        int before = x.count(1);
        add(x.tripsBy(s, sort, 0, 2));
        for (int i = before; i < x.count(1); i++) {
            add(x.taken(i, 6));
            add(x.takes(i, 0));
        }
        x.back();
    }
}
