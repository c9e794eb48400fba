/** Promises 31 to 35: who stays home, who asks. */
public final class HomesTest {
    private HomesTest() {
    }

    public static void main(String[] args) {
        homes();
        rounds();
        rest();
        asks();
        asked();
        Due.end();
    }

    private static BetweenStops town(String text) {
        BetweenStops x = new BetweenStops();
        x.stop(0, 1, 20, 0);
        x.stop(0, 38, 20, 0);
        Due.due("text " + text, Due.textOf(x, text), 1);
        Due.due("force " + text, x.force(1), 0);
        return x;
    }

    private static void homes() {
        BetweenStops x = new BetweenStops();
        x.sort(0, 2, 5);
        x.trip(0, 40, 1, 0);
        Due.due("2000 is not less than 2000", x.homes(), 0);
        x.trip(0, 40, 1, 1);
        x.sort(1, 2, 4);
        Due.due("2400", x.homes(), 2);
        x.trip(0, 40, 1, 1);
        Due.due("two of three", x.homes(), 6);
        BetweenStops y = town("stay cost=471 and walk=30 and wait=150 and ride=111 and many=12 and sort=0;late 0;ask 0;");
        y.trip(0, 40, 11, 0);
        y.trip(0, 40, 12, 1);
        y.trip(0, 40, 12, 0);
        y.trip(0, 39, 12, 0);
        Due.due("all six names", y.homes(), 4);
        y.open(0, 0);
        Due.due("then they walk", y.homes(), 0);
        BetweenStops z = town("stay 0-5;late 0;ask 0;");
        z.trip(0, 1, 1, 0);
        z.trip(0, 1, 1, 0);
        Due.due("what isn't 0", z.homes(), 3);
        Due.due("round 0", z.round(0), 0);
    }

    /** Who waits costs nothing, so that everybody rides, however long the wait is. */
    private static BetweenStops riders(String stay) {
        BetweenStops x = town("stay " + stay + ";late 0;ask 0;");
        for (int k = 0; k < 3; k++) {
            x.sort(k, 3, 0);
        }
        x.car(0, 100);
        return x;
    }

    private static void rounds() {
        BetweenStops x = riders("99-many*10<wait");
        x.trip(1, 38, 1, 0);
        x.trip(1, 38, 2, 0);
        x.trip(1, 38, 3, 0);
        x.trip(1, 38, 6, 0);
        // 100: 50 waited, so 6 stay. 100 * 12 / 6: 100 waited, so all. 100 * 12 / 1: all.
        Due.due("now", x.homes(), 8);
        int[] want = {0, 8, 15, 15};
        for (int n = 0; n < want.length; n++) {
            Due.due("round " + n, x.round(n), want[n]);
        }
        Due.due("round 20", x.round(20), 15);
        Due.due("round -1", x.round(-1), BetweenStops.BAD);
        Due.due("round 21", x.round(21), BetweenStops.BAD);
        Due.due("EVERY as it was", x.count(6), 100);
        BetweenStops bound = riders("wait=1800");
        bound.car(0, 3600);
        bound.trip(1, 38, 99, 0);
        Due.due("3600 at most", bound.round(1), 1);
        Due.due("3600 at most then", bound.round(2), 1);
        BetweenStops often = riders("wait=0");
        often.car(0, 1);
        often.trip(1, 38, 1, 0);
        Due.due("1 at least", often.round(1), 1);
        Due.due("1 at least then", often.round(2), 1);
        // Cut: 100 * 3 / 2 is 150, and 75 waited; 100 * 3 / 1 is 300.
        BetweenStops cut = riders("many=1 and wait<51 or wait=75");
        cut.trip(1, 38, 1, 0);
        cut.trip(1, 38, 2, 0);
        Due.due("cut 1", cut.round(1), 1);
        Due.due("cut 2", cut.round(2), 3);
        Due.due("cut 3", cut.round(3), 0);
        Due.due("cut 4", cut.round(4), 1);
    }

    private static void rest(BetweenStops x, int... want) {
        for (int what = 0; what < 3; what++) {
            Due.due("rest " + what, x.rest(what), want[what]);
        }
    }

    private static void rest() {
        BetweenStops x = riders("99-many*10<wait");
        rest(x, 0, 0, 1);
        x.trip(1, 38, 1, 0);
        x.trip(1, 38, 2, 0);
        x.trip(1, 38, 3, 0);
        x.trip(1, 38, 6, 0);
        rest(x, 15, 2, 1);
        BetweenStops turn = riders("wait<60");
        turn.trip(1, 38, 10, 0);
        rest(turn, 0, 0, 2);
        BetweenStops three = riders("many=1 and wait<51 or wait=75");
        three.trip(1, 38, 1, 0);
        three.trip(1, 38, 2, 0);
        rest(three, 0, 0, 3);
        Due.due("rest 3", x.rest(3), BetweenStops.BAD);
        Due.due("rest -1", x.rest(-1), BetweenStops.BAD);
        neverInTwenty();
    }

    /** Who stays is as good as drawn: it comes again late, or not in the rounds that are looked at. */
    private static BetweenStops longRounds(int factor) {
        BetweenStops x = riders("wait*many*" + factor + "*9973*9973<0");
        for (int many : new int[] {1, 2, 4, 8, 16, 32, 64, 99}) {
            x.trip(1, 38, many, 0);
        }
        return x;
    }

    private static void neverInTwenty() {
        rest(longRounds(46), 225, 8, 12);
        // Behind round 21 it would be as behind round 0.
        rest(longRounds(117), BetweenStops.STATE, BetweenStops.STATE, BetweenStops.STATE);
        BetweenStops x = longRounds(6);
        rest(x, BetweenStops.STATE, BetweenStops.STATE, BetweenStops.STATE);
        Due.due("its last round", x.round(20), 204);
        Due.due("rest 3 of it", x.rest(3), BetweenStops.BAD);
    }

    private static void asks() {
        BetweenStops x = new BetweenStops();
        x.car(0, 2);
        x.stop(1, 0, 0, 0);
        x.stop(5, 40, 0, 0);
        x.stop(0, 20, 0, 0);
        x.stop(1, 20, 0, 0);
        x.want(2, 3);
        x.trip(0, 40, 7, 0);
        Due.due("who get in", x.asks(0), 7);
        Due.due("who get out", x.asks(1), 7);
        Due.due("WANTED of one that isn't asked", x.asks(2), 3);
        Due.due("nobody", x.asks(3), 0);
        x.trip(40, 20, 4, 0);
        Due.due("ten at most", x.asks(1), 10);
        Due.due("both", x.asks(0), 7);
        x.open(1, 0);
        Due.due("not open", x.asks(1), 0);
        Due.due("what is asked wants none", x.told(1, 4), 5);
        Due.due("asks 4", x.asks(4), -5);
        Due.due("asks -1", x.asks(-1), -5);
        Due.textOf(x, "stay 0;late 0;ask sort*2+cost+walk+wait+ride;");
        x.force(1);
        Due.due("its number", x.asks(3), 6);
        Due.textOf(x, "stay 0;late 0;ask 0-many;");
        x.force(2);
        Due.due("0 at least", x.asks(0), 0);
    }

    private static void asked() {
        BetweenStops x = new BetweenStops();
        x.car(0, 2);
        x.stop(1, 0, 0, 0);
        x.stop(5, 40, 0, 0);
        x.stop(0, 20, 0, 0);
        x.stop(1, 20, 0, 0);
        x.trip(0, 40, 5, 0);
        x.want(1, 6);
        Due.due("asked", x.asked(), 2);
        Due.due("as it was", x.told(0, 4), 5);
        Due.due("people who get out", x.told(1, 4), 5);
        Due.due("not asked", x.told(2, 4), 5);
        Due.due("nobody's", x.told(3, 4), 0);
        Due.due("asked again", x.asked(), 0);
        Due.due("asked of none", new BetweenStops().asked(), 0);
        BetweenStops first = new BetweenStops();
        first.stop(1, 7, 7, 7);
        Due.due("just the first", first.asked(), 1);
        Due.due("nobody's first", first.told(0, 4), 0);
        // All are told as it is now: were stop 1 changed first, it would pay to ride past it.
        BetweenStops now = new BetweenStops();
        now.car(0, 2);
        now.stop(0, 0, 0, 0);
        now.stop(1, 39, 99, 0);
        now.stop(1, 40, 0, 0);
        now.trip(0, 40, 1, 0);
        now.want(1, 10);
        Due.due("gets out ahead of the end", now.takes(0, 2), 1);
        Due.due("all at once", now.asked(), 2);
        Due.due("the first", now.told(1, 4), 1);
        Due.due("the second", now.told(2, 4), 0);
        Due.due("rides to the end then", now.takes(0, 2), 2);
        Due.due("all at once again", now.asked(), 2);
        Due.due("the first", now.told(1, 4), 0);
        Due.due("the second", now.told(2, 4), 1);
    }
}
