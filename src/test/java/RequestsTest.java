/** Promises 7 to 10, 21 and 22: requests, links, conferences, offers, and those that wait. */
public final class RequestsTest {
    private static final int MIN = Integer.MIN_VALUE;
    private static final int MAX = Integer.MAX_VALUE;

    public static void main(String[] args) {
        promise7();
        claims();
        promise8();
        promise9();
        sortsInTurn();
        sortsAsItBegins();
        pairs();
        offers();
        promise10();
        promise21();
        promise22();
        Check.finish();
    }

    static int ask(Real x, int carrier, int airport, int weekday, int time, int weeks) {
        return x.request(carrier, airport, 0, weekday, time, 0, weeks - 1, 0, -1);
    }

    /** A right of carrier 1 at airport 0 for arrivals on weekday 2 at 30, in the weeks 3 to 12, with a noise of 4. */
    static Real withRight() {
        Real x = new Real();
        x.request(1, 0, 0, 2, 30, 3, 12, 4, -1);
        x.confer();
        for (int week = 3; week < 11; week++) {
            x.fly(0, week, 30);
        }
        x.end();
        return x;
    }

    private static void promise7() {
        Real x = new Real();
        int[][] nobody = {{-1, 0, -1}, {10, 0, -1}, {0, -1, -1}, {0, 4, -1}, {0, 0, 0}, {0, 0, -2}, {MIN, MAX, MAX}, {0, 0, MIN}};
        for (int[] n : nobody) {
            Check.refused(x, "7: nobody", Check.INDEX, () -> x.request(n[0], n[1], 9, 9, 99, 9, 0, 99, n[2]));
        }
        int[][] wrong = {
            {-1, 0, 0, 0, 0, 0}, {2, 0, 0, 0, 0, 0}, {0, -1, 0, 0, 0, 0}, {0, 7, 0, 0, 0, 0}, {0, 0, -1, 0, 0, 0},
            {0, 0, 72, 0, 0, 0}, {0, 0, 0, -1, 0, 0}, {0, 0, 0, 20, 20, 0}, {0, 0, 0, 5, 4, 0}, {0, 0, 0, 5, 20, 0},
            {0, 0, 0, 0, 0, -1}, {0, 0, 0, 0, 0, 10}, {MAX, MIN, MAX, MIN, MAX, MIN}
        };
        for (int[] w : wrong) {
            Check.refused(x, "7: range", Check.ARGUMENT, () -> x.request(0, 0, w[0], w[1], w[2], w[3], w[4], w[5], -1));
        }
        for (int i = 0; i < 60; i++) {
            Check.due("7: number", x.request(i % 10, i % 4, i % 2, i % 7, i, i % 20, 19, i % 10, -1), i);
        }
        Check.refused(x, "7: 61st", Check.STATE, () -> x.request(0, 0, 0, 0, 0, 0, 0, 0, -1));
        Check.refused(x, "7: 61st out of range", Check.ARGUMENT, () -> x.request(0, 0, 0, 0, 0, 0, 0, 10, -1));
        Check.due("7: 60 are there", x.count(0), 60);
        Check.due("7: all may be given", x.confer(), 60);
        Check.due("7: 60 series", x.count(4), 60);
        x.end();
        Check.due("7: anew", x.request(9, 3, 1, 6, 71, 19, 19, 9, -1), 0);
    }

    private static void claims() {
        Real x = withRight();
        Check.due("7: the right", x.rights(), 1);
        int[][] wrong = {{0, 0, 0, 2}, {1, 1, 0, 2}, {1, 0, 1, 2}, {1, 0, 0, 3}};
        for (int[] w : wrong) {
            Check.refused(x, "7: not its right", Check.STATE, () -> x.request(w[0], w[1], w[2], w[3], 30, 3, 12, 4, 0));
        }
        Check.refused(x, "7: no such right", Check.INDEX, () -> x.request(1, 0, 5, 2, 30, 3, 12, 4, 1));
        Check.refused(x, "7: range ahead of the claim", Check.ARGUMENT, () -> x.request(0, 0, 2, 2, 30, 3, 12, 4, 0));
        x.merge(0, 1);
        Check.refused(x, "7: of its group, not its own", Check.STATE, () -> x.request(0, 0, 0, 2, 30, 3, 12, 4, 0));
        Check.due("7: a claim", x.request(1, 0, 0, 2, 30, 3, 12, 4, 0), 0);
        Check.due("7: historic", x.requestOf(0, 1), SlotConference.HISTORIC);
        Check.due("7: claimed by", x.rightOf(0, 8), 0);
        Check.refused(x, "7: claimed already", Check.STATE, () -> x.request(1, 0, 0, 2, 31, 3, 12, 4, 0));
        Check.due("7: without it", x.request(1, 0, 0, 2, 30, 3, 12, 4, -1), 1);
        Check.due("7: new then", x.requestOf(1, 1), SlotConference.NEW);
        int[][] changed = {{31, 3, 12, 4}, {30, 2, 12, 4}, {30, 3, 11, 4}, {30, 3, 12, 5}};
        for (int[] c : changed) {
            Real y = withRight();
            y.request(1, 0, 0, 2, c[0], c[1], c[2], c[3], 0);
            Check.due("7: changed", y.requestOf(0, 1), SlotConference.CHANGED);
        }
    }

    private static void promise8() {
        Real x = new Real();
        for (int i = 0; i < 5; i++) {
            ask(x, i, i % 4, 0, 30, 5);
        }
        Check.refusedVoid(x, "8: request", Check.INDEX, () -> x.link(5, 5));
        Check.refusedVoid(x, "8: other", Check.INDEX, () -> x.link(0, -1));
        Check.refusedVoid(x, "8: request -1", Check.INDEX, () -> x.link(-1, -1));
        Check.refusedVoid(x, "8: the same", Check.ARGUMENT, () -> x.link(2, 2));
        x.link(1, 0);
        Check.due("8: linked", x.requestOf(0, 4), 1);
        Check.due("8: linked too", x.requestOf(1, 4), 0);
        Check.due("8: not linked", x.requestOf(2, 4), -1);
        Check.refusedVoid(x, "8: again", Check.STATE, () -> x.link(0, 1));
        Check.refusedVoid(x, "8: one is linked", Check.STATE, () -> x.link(2, 0));
        Check.refusedVoid(x, "8: other is linked", Check.STATE, () -> x.link(1, 2));
        Check.refusedVoid(x, "8: linked, the same", Check.ARGUMENT, () -> x.link(0, 0));
        Check.due("8: all are given", x.confer(), 5);
        Check.due("8: linked still", x.requestOf(0, 4), 1);
        ask(x, 6, 0, 0, 30, 5);
        Check.refusedVoid(x, "8: one is given", Check.STATE, () -> x.link(5, 2));
        Check.refusedVoid(x, "8: one is given, turned", Check.STATE, () -> x.link(2, 5));
        x.end();
        Check.refusedVoid(x, "8: gone with the season", Check.INDEX, () -> x.link(0, 1));
    }

    private static void promise9() {
        Real x = new Real();
        Check.refused(x, "9: none", Check.STATE, x::confer);
        x.declare(0, 2, 1, 1);
        int few = ask(x, 0, 0, 0, 30, 6);
        int first = ask(x, 1, 0, 0, 30, 9);
        int second = ask(x, 2, 0, 0, 30, 9);
        Check.due("9: one is given", x.confer(), 1);
        Check.due("9: more weeks, lower number", x.requestOf(first, 0), SlotConference.GIVEN);
        Check.due("9: its series", x.requestOf(first, 2), 0);
        Check.due("9: offered 1 less", x.requestOf(second, 3), 29);
        Check.due("9: offered without being held", x.requestOf(few, 3), 29);
        Check.due("9: in order", x.ahead(few) - x.ahead(second), 1);
        Check.refused(x, "9: none is asked now", Check.STATE, x::confer);
        int later = ask(x, 3, 0, 0, 29, 2);
        Check.due("9: a later conference", x.confer(), 1);
        Check.due("9: only those asked", x.requestOf(second, 0), SlotConference.OFFERED);
        Check.due("9: the later one", x.requestOf(later, 2), 1);
        weeksCount();
    }

    private static void weeksCount() {
        Real x = new Real();
        x.declare(0, 2, 6, 1);
        x.request(0, 0, 0, 0, 30, 0, 6, 0, -1);
        x.request(1, 0, 0, 0, 30, 4, 11, 0, -1);
        x.request(2, 0, 0, 0, 30, 12, 12, 0, -1);
        Check.due("9: by weeks, not by the last one", x.confer(), 2);
        Check.due("9: seven weeks wait", x.requestOf(0, 0), SlotConference.WAITING);
        Check.due("9: eight weeks first", x.requestOf(1, 2), 0);
    }

    /** Carrier 9 has three series, so its requests are OTHER; each request is for a day of its own. */
    private static void sortsInTurn() {
        Real x = new Real();
        for (int i = 0; i < 3; i++) {
            ask(x, 9, 0, i, 60, 5);
        }
        x.confer();
        int[] carriers = {9, 9, 9, 0, 1, 9, 2, 3, 4, 5, 6};
        int[] weeks = {4, 9, 9, 1, 3, 2, 1, 1, 2, 1, 1};
        for (int i = 0; i < carriers.length; i++) {
            ask(x, carriers[i], 0, i % 7, 20 + i, weeks[i]);
        }
        Check.due("9: OTHER", x.requestOf(3, 1), SlotConference.OTHER);
        Check.due("9: NEW", x.requestOf(6, 1), SlotConference.NEW);
        Check.due("9: all", x.confer(), 11);
        // New ones 7 (3 weeks), 11 (2), 6, 9, 10, 12, 13 (1); other ones 4, 5 (9), 3 (4), 8 (2).
        int[] order = {7, 4, 11, 5, 6, 3, 9, 8, 10, 12, 13};
        for (int i = 0; i < order.length; i++) {
            Check.due("9: in turn, place " + i, x.seriesOf(3 + i, 8), order[i]);
        }
        Check.due("9: as it was sorted", x.requestOf(6, 1), SlotConference.NEW);
        Real y = new Real();
        for (int i = 0; i < 3; i++) {
            ask(y, 9, 0, i, 60, 5);
        }
        y.confer();
        for (int i = 0; i < 3; i++) {
            ask(y, 9, 0, i, 50, 5);
        }
        ask(y, 1, 0, 0, 40, 1);
        y.confer();
        int[] rest = {6, 3, 4, 5};
        for (int i = 0; i < rest.length; i++) {
            Check.due("9: the rest of the other ones", y.seriesOf(3 + i, 8), rest[i]);
        }
    }

    private static void sortsAsItBegins() {
        Real x = withRight();
        int fresh = ask(x, 5, 0, 2, 10, 20);
        int changed = x.request(1, 0, 0, 2, 31, 3, 3, 4, 0);
        Check.due("9: two", x.confer(), 2);
        Check.due("9: a changed one ahead of a new one with more weeks", x.requestOf(changed, 2), 0);
        Check.due("9: the new one then", x.requestOf(fresh, 2), 1);
        Real y = new Real();
        for (int i = 0; i < 4; i++) {
            ask(y, 0, 0, i, 30, 5);
        }
        y.confer();
        for (int i = 0; i < 4; i++) {
            Check.due("9: new for all as it begins", y.requestOf(i, 1), SlotConference.NEW);
        }
        ask(y, 0, 0, 5, 30, 5);
        Check.due("9: four series", y.requestOf(4, 1), SlotConference.OTHER);
        y.giveBack(0, 0);
        Check.due("9: three series", y.requestOf(4, 1), SlotConference.OTHER);
        y.giveBack(1, 0);
        Check.due("9: two series, as things are now", y.requestOf(4, 1), SlotConference.NEW);
        historicFirst();
    }

    private static void historicFirst() {
        Real x = new Real();
        for (int i = 0; i < 3; i++) {
            x.request(i, 0, 0, 0, 30 + i, 0, 4, 0, -1);
        }
        x.confer();
        for (int i = 0; i < 3; i++) {
            for (int week = 0; week < 4; week++) {
                x.fly(i, week, 30 + i);
            }
        }
        Check.due("9: three rights", x.end(), 3);
        x.request(0, 0, 0, 0, 40, 0, 19, 0, 0);
        x.request(1, 0, 0, 0, 31, 0, 4, 0, 1);
        x.request(2, 0, 0, 0, 32, 0, 4, 0, 2);
        x.confer();
        Check.due("9: historic, lower number", x.seriesOf(0, 8), 1);
        Check.due("9: historic", x.seriesOf(1, 8), 2);
        Check.due("9: changed", x.seriesOf(2, 8), 0);
    }

    private static void pairs() {
        Real x = new Real();
        x.declare(1, 2, 1, 1);
        int a = ask(x, 0, 0, 0, 30, 9);
        int b = ask(x, 0, 1, 0, 30, 1);
        int c = ask(x, 1, 1, 0, 30, 5);
        x.link(a, b);
        Check.due("9: both of a pair", x.confer(), 2);
        Check.due("9: the one looked at first", x.requestOf(a, 2), 0);
        Check.due("9: the other one with it", x.requestOf(b, 2), 1);
        Check.due("9: ahead of more weeks", x.requestOf(c, 0), SlotConference.OFFERED);
        int d = ask(x, 2, 2, 0, 30, 2);
        int e = ask(x, 2, 1, 0, 30, 8);
        int f = ask(x, 3, 2, 0, 30, 7);
        int g = ask(x, 3, 1, 0, 30, 1);
        x.link(d, e);
        x.link(g, f);
        Check.due("9: none of two pairs", x.confer(), 0);
        for (int i = d; i <= g; i++) {
            Check.due("9: waits without an offer", x.requestOf(i, 0), SlotConference.WAITING);
            Check.due("9: no series", x.requestOf(i, 2), -1);
            Check.due("9: no offer", x.requestOf(i, 3), -1);
        }
        Check.due("9: no trace of the series taken back", x.count(4), 2);
        Check.due("9: queue at 1: c, e, g", x.ahead(c) + 10 * x.ahead(e) + 100 * x.ahead(g), 210);
        Check.due("9: queue at 2: d, f", x.ahead(d) + 10 * x.ahead(f), 10);
        sameAirport();
    }

    private static void sameAirport() {
        Real x = new Real();
        x.declare(0, 2, 2, 1);
        int a = ask(x, 0, 0, 0, 30, 5);
        int b = ask(x, 0, 0, 0, 31, 5);
        x.link(a, b);
        Check.due("9: the other one with this one given", x.confer(), 0);
        Check.due("9: each alone fits", x.requestOf(a, 5) + x.requestOf(b, 5), 0);
        Check.due("9: right behind", x.ahead(b), 1);
        Real y = new Real();
        y.quota(0, 9);
        y.request(0, 0, 0, 0, 3, 0, 0, 5, -1);
        y.request(0, 0, 1, 3, 3, 0, 0, 5, -1);
        y.link(0, 1);
        Check.due("9: the quota with this one given", y.confer(), 0);
        y.request(0, 0, 0, 0, 3, 0, 0, 5, -1);
        y.request(0, 0, 1, 3, 3, 0, 0, 4, -1);
        y.link(2, 3);
        Check.due("9: the quota just kept", y.confer(), 2);
    }

    private static void offers() {
        int[] tried = {29, 31, 28, 32, 27, 33};
        for (int open = 0; open <= 6; open++) {
            Real x = new Real();
            x.declare(0, 2, 1, 1);
            ask(x, 0, 0, 0, 30, 20);
            for (int i = 0; i < open; i++) {
                ask(x, 0, 0, 0, tried[i], 20);
            }
            ask(x, 1, 0, 0, 30, 1);
            Check.due("9: given", x.confer(), open + 1);
            Check.due("9: offered", x.requestOf(open + 1, 3), open < 6 ? tried[open] : -1);
            Check.due("9: its state", x.requestOf(open + 1, 0), open < 6 ? SlotConference.OFFERED : SlotConference.WAITING);
        }
        Real y = new Real();
        y.curfew(0, 0, 2);
        y.curfew(1, 68, 72);
        y.curfew(2, 0, 4);
        int low = ask(y, 0, 0, 0, 0, 1);
        int high = ask(y, 0, 1, 0, 71, 1);
        int far = ask(y, 0, 2, 0, 0, 1);
        Check.due("9: none at the ends", y.confer(), 0);
        Check.due("9: no time below 0", y.requestOf(low, 3), 2);
        Check.due("9: 4 less is too far", y.requestOf(high, 3), -1);
        Check.due("9: 4 more is too far", y.requestOf(far, 3), -1);
        y.curfew(0, 1, 5);
        int zero = ask(y, 0, 0, 0, 2, 1);
        y.confer();
        Check.due("9: the time 0", y.requestOf(zero, 3), 0);
        y.curfew(3, 69, 72);
        int late = ask(y, 0, 3, 0, 71, 1);
        y.confer();
        Check.due("9: no time above 71", y.requestOf(late, 3), 68);
    }

    private static void promise10() {
        Real x = new Real();
        x.declare(0, 2, 1, 1);
        for (int i = 0; i < 3; i++) {
            ask(x, i, 0, 0, 30, 5);
        }
        Check.refusedBoolean(x, "10: asked", Check.STATE, () -> x.accept(0));
        x.confer();
        Check.refusedBoolean(x, "10: given", Check.STATE, () -> x.accept(0));
        Check.refusedBoolean(x, "10: no such request", Check.INDEX, () -> x.accept(3));
        Check.refusedBoolean(x, "10: request -1", Check.INDEX, () -> x.accept(-1));
        Check.due("10: both are offered 29", x.requestOf(1, 3) + x.requestOf(2, 3), 58);
        Check.due("10: given", x.accept(2), true);
        Check.due("10: at that time", x.seriesOf(1, 5), 29);
        Check.due("10: its request", x.seriesOf(1, 8), 2);
        Check.due("10: its state", x.requestOf(2, 0), SlotConference.GIVEN);
        Check.due("10: no offer any more", x.requestOf(2, 3), -1);
        Check.due("10: waits no more", x.ahead(2), -1);
        ask(x, 4, 0, 0, 30, 5);
        x.confer();
        Check.due("10: fits no more", x.accept(1), false);
        Check.due("10: waits", x.requestOf(1, 0), SlotConference.WAITING);
        Check.due("10: no offer", x.requestOf(1, 3), -1);
        Check.due("10: no series", x.requestOf(1, 2), -1);
        Check.due("10: at its place", x.ahead(1) + 10 * x.ahead(3), 10);
        Check.refusedBoolean(x, "10: waiting", Check.STATE, () -> x.accept(1));
        x.curfew(0, 31, 32);
        Check.due("10: by a curfew told later", x.accept(3), false);
    }

    private static void promise21() {
        Real x = new Real();
        x.declare(0, 2, 1, 1);
        ask(x, 0, 0, 0, 30, 5);
        ask(x, 1, 0, 0, 30, 5);
        int[] asked = {0, 2, -1, -1, -1, 0};
        for (int what = 0; what <= 5; what++) {
            Check.due("21: asked, " + what, x.requestOf(1, what), asked[what]);
        }
        x.confer();
        int[] given = {1, 2, 0, -1, -1, 0};
        int[] offered = {2, 2, -1, 29, -1, 10};
        for (int what = 0; what <= 5; what++) {
            Check.due("21: given, " + what, x.requestOf(0, what), given[what]);
            Check.due("21: offered, " + what, x.requestOf(1, what), offered[what]);
        }
        x.curfew(0, 30, 31);
        Check.due("21: given is 0", x.requestOf(0, 5), 0);
        Check.due("21: now", x.requestOf(1, 5), 1);
        x.giveBack(0, 0);
        Check.due("21: the series is gone, the request stays given", x.requestOf(0, 0), SlotConference.GIVEN);
        Check.due("21: its series still", x.requestOf(0, 2), 0);
        Check.due("21: its reason still", x.requestOf(0, 5), 0);
        int[] no = {-1, 2, MIN, MAX};
        for (int n : no) {
            Check.refused(x, "21: request " + n, Check.INDEX, () -> x.requestOf(n, 6));
        }
        int[] what = {-1, 6, MIN, MAX};
        for (int w : what) {
            Check.refused(x, "21: what " + w, Check.ARGUMENT, () -> x.requestOf(0, w));
        }
    }

    private static void promise22() {
        Real x = new Real();
        x.curfew(0, 25, 35);
        x.curfew(1, 25, 35);
        int[] airports = {0, 1, 0, 0, 1};
        for (int i = 0; i < airports.length; i++) {
            ask(x, i, airports[i], 0, 30, 10 - i);
        }
        Check.due("22: asked", x.ahead(0), -1);
        x.confer();
        int[] ahead = {0, 0, 1, 2, 1};
        for (int i = 0; i < ahead.length; i++) {
            Check.due("22: ahead of " + i, x.ahead(i), ahead[i]);
        }
        ask(x, 7, 0, 0, 30, 20);
        x.confer();
        Check.due("22: a later conference behind", x.ahead(5), 3);
        x.curfew(0, 0, 0);
        ask(x, 8, 0, 5, 30, 1);
        x.confer();
        Check.due("22: nobody is served by a conference", x.ahead(5), 3);
        Check.due("22: given", x.ahead(6), -1);
        Check.due("22: all are served", x.giveBack(0, 0), 4);
        Check.due("22: given then", x.ahead(5), -1);
        Check.due("22: at the other airport they wait", x.ahead(4), 1);
        Check.refused(x, "22: no such request", Check.INDEX, () -> x.ahead(7));
        Check.refused(x, "22: request -1", Check.INDEX, () -> x.ahead(-1));
        mixedQueue();
    }

    private static void mixedQueue() {
        Real x = new Real();
        x.declare(0, 2, 1, 1);
        for (int i = 0; i < 4; i++) {
            ask(x, i, 0, 0, 30, 5);
        }
        x.confer();
        x.accept(2);
        Check.due("22: one ahead is given", x.ahead(3), 1);
        x.accept(1);
        Check.due("22: one ahead waits without an offer", x.ahead(3), 1);
        x.end();
        for (int i = 0; i < 4; i++) {
            ask(x, i, 0, 0, 30, 5 + i);
        }
        x.confer();
        Check.due("22: nobody waits from a season ahead", x.ahead(2) * 100 + x.ahead(1) * 10 + x.ahead(0), 12);
    }
}
