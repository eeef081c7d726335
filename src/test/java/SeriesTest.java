/** Promises 11 to 16 and 23 to 28: returns, swaps, leases, flights, closings, ends, rights, counts. */
public final class SeriesTest {
    private static final int MIN = Integer.MIN_VALUE;
    private static final int MAX = Integer.MAX_VALUE;

    public static void main(String[] args) {
        promise11();
        whoIsServed();
        promise12();
        promise13();
        promise14();
        promise15();
        promise16();
        whatStaysBehindASeason();
        promise23();
        promise24();
        promises25And26();
        promise27();
        rightsOfOthers();
        promise28();
        Check.finish();
    }

    /** One series of carrier 1 at airport 0, a departure on weekday 2 at 30, from first to last. */
    private static Real one(int first, int last) {
        Real x = new Real();
        x.request(1, 0, 1, 2, 30, first, last, 4, -1);
        x.confer();
        return x;
    }

    private static void promise11() {
        Real x = one(3, 12);
        Check.refused(x, "11: series", Check.INDEX, () -> x.giveBack(1, 99));
        Check.refused(x, "11: series -1", Check.INDEX, () -> x.giveBack(-1, 0));
        Check.refused(x, "11: week", Check.ARGUMENT, () -> x.giveBack(0, 20));
        Check.refused(x, "11: week -1", Check.ARGUMENT, () -> x.giveBack(0, -1));
        Check.refused(x, "11: over by then", Check.STATE, () -> x.giveBack(0, 13));
        x.fly(0, 5, 30);
        x.fly(0, 9, 30);
        x.fly(0, 12, 34);
        Check.due("11: the last week alone", x.giveBack(0, 12), 0);
        Check.due("11: up to the week ahead", x.seriesOf(0, 7), 11);
        Check.due("11: used", x.seriesOf(0, 9), 2);
        Check.due("11: off still", x.seriesOf(0, 10), 1);
        Check.refused(x, "11: that week again", Check.STATE, () -> x.giveBack(0, 12));
        x.giveBack(0, 8);
        Check.due("11: used up to there", x.seriesOf(0, 9), 1);
        Check.refused(x, "11: flights of later weeks", Check.ARGUMENT, () -> x.fly(0, 9, 30));
        x.giveBack(0, 4);
        Check.due("11: one week is left", x.seriesOf(0, 6) * 100 + x.seriesOf(0, 7), 303);
        Check.due("11: not gone", x.seriesOf(0, 11), 0);
        Check.due("11: from its first week on", x.giveBack(0, 3), 0);
        Check.due("11: gone", x.seriesOf(0, 11), 1);
        Check.due("11: its weeks as they were", x.seriesOf(0, 6) * 100 + x.seriesOf(0, 7), 303);
        Check.refused(x, "11: gone already", Check.STATE, () -> x.giveBack(0, 3));
        Check.refused(x, "11: gone, out of range", Check.ARGUMENT, () -> x.giveBack(0, 20));
        Real y = one(3, 12);
        y.fly(0, 7, 30);
        Check.due("11: from a week ahead of it", y.giveBack(0, 0), 0);
        Check.due("11: its weeks stay", y.seriesOf(0, 6) * 100 + y.seriesOf(0, 7), 312);
        Check.due("11: its uses stay", y.seriesOf(0, 9), 1);
        Check.due("11: gone at once", y.seriesOf(0, 11), 1);
    }

    private static void whoIsServed() {
        Real x = new Real();
        x.declare(0, 2, 6, 1);
        x.request(0, 0, 0, 0, 30, 0, 19, 0, -1);
        x.request(1, 0, 0, 0, 30, 10, 18, 0, -1);
        x.request(2, 0, 0, 0, 31, 10, 17, 0, -1);
        x.request(3, 0, 0, 0, 32, 5, 9, 0, -1);
        x.request(4, 0, 0, 0, 33, 12, 13, 0, -1);
        x.request(4, 1, 0, 0, 33, 12, 13, 0, -1);
        x.link(4, 5);
        Check.due("11: one at the conference", x.confer(), 1);
        Check.due("11: by fewer weeks", x.giveBack(0, 10), 1);
        Check.due("11: the first that waits", x.requestOf(1, 0), SlotConference.GIVEN);
        Check.due("11: the next does not fit then", x.requestOf(2, 0), SlotConference.WAITING);
        Check.due("11: its own time", x.seriesOf(1, 5), 30);
        Check.due("11: by going", x.giveBack(1, 10), 1);
        Check.due("11: the next then", x.requestOf(2, 2), 2);
        Check.due("11: not the linked ones", x.giveBack(2, 0), 0);
        Check.due("11: though they fit", x.requestOf(4, 5) + x.requestOf(5, 5), 0);
        Check.due("11: they wait", x.requestOf(4, 0), SlotConference.WAITING);
        Check.due("11: weeks 5 to 9 free", x.giveBack(0, 3), 1);
        Check.due("11: it is given", x.requestOf(3, 2), 3);
        Real y = new Real();
        y.declare(0, 2, 1, 1);
        y.declare(1, 2, 1, 1);
        for (int i = 0; i < 6; i++) {
            y.request(i, i / 3, 0, 0, 30, 0, 9, 0, -1);
        }
        y.confer();
        Check.due("11: offered a time nearby", y.requestOf(1, 3), 29);
        Check.due("11: an offered one at its own time", y.giveBack(0, 0), 1);
        Check.due("11: at 30", y.seriesOf(y.requestOf(1, 2), 5), 30);
        Check.due("11: no offer any more", y.requestOf(1, 3), -1);
        Check.due("11: an offer stays", y.requestOf(2, 3), 29);
        Check.due("11: none of another airport", y.requestOf(4, 0), SlotConference.OFFERED);
    }

    private static Real three() {
        Real x = new Real();
        x.request(0, 0, 0, 0, 30, 0, 9, 0, -1);
        x.request(1, 0, 1, 1, 40, 0, 7, 0, -1);
        x.request(2, 1, 0, 0, 30, 0, 5, 0, -1);
        x.confer();
        return x;
    }

    private static void promise12() {
        Real x = three();
        Check.refusedVoid(x, "12: series", Check.INDEX, () -> x.swap(3, 3));
        Check.refusedVoid(x, "12: other", Check.INDEX, () -> x.swap(0, -1));
        Check.refusedVoid(x, "12: the same", Check.ARGUMENT, () -> x.swap(0, 0));
        Check.refusedVoid(x, "12: two airports", Check.STATE, () -> x.swap(0, 2));
        x.lease(0, 7);
        x.swap(0, 1);
        Check.due("12: holder", x.seriesOf(0, 0) + 10 * x.seriesOf(1, 0), 1);
        Check.due("12: user", x.seriesOf(0, 1) + 10 * x.seriesOf(1, 1), 71);
        Check.due("12: request", x.seriesOf(0, 8) + 10 * x.seriesOf(1, 8), 10);
        Check.due("12: time", x.seriesOf(0, 5), 30);
        x.giveBack(1, 0);
        Check.refusedVoid(x, "12: other is gone", Check.STATE, () -> x.swap(0, 1));
        Check.refusedVoid(x, "12: gone", Check.STATE, () -> x.swap(1, 0));
        Check.refusedVoid(x, "12: gone, the same", Check.ARGUMENT, () -> x.swap(1, 1));
    }

    private static void promise13() {
        Real x = three();
        Check.refused(x, "13: series", Check.INDEX, () -> x.lease(3, 0));
        Check.refused(x, "13: series -1", Check.INDEX, () -> x.lease(-1, 0));
        Check.refused(x, "13: carrier", Check.INDEX, () -> x.lease(0, 10));
        Check.refused(x, "13: carrier -1", Check.INDEX, () -> x.lease(0, -1));
        Check.due("13: its carrier at first", x.lease(1, 8), 1);
        Check.due("13: then", x.lease(1, 1), 8);
        Check.due("13: the holder stays", x.seriesOf(1, 0), 1);
        x.lease(1, 9);
        x.giveBack(1, 0);
        Check.due("13: the user as it was last", x.seriesOf(1, 1), 9);
        Check.refused(x, "13: gone", Check.STATE, () -> x.lease(1, 0));
        Check.refused(x, "13: gone, no such carrier", Check.INDEX, () -> x.lease(1, 10));
    }

    private static void promise14() {
        Real x = one(3, 12);
        Check.refused(x, "14: series", Check.INDEX, () -> x.fly(1, 99, 99));
        Check.refused(x, "14: series -1", Check.INDEX, () -> x.fly(-1, 3, 30));
        int[][] wrong = {{2, 30}, {13, 30}, {3, -1}, {3, 72}, {MIN, MAX}};
        for (int[] w : wrong) {
            Check.refused(x, "14: range", Check.ARGUMENT, () -> x.fly(0, w[0], w[1]));
        }
        Check.due("14: 2 less", x.fly(0, 3, 28), 0);
        Check.due("14: 2 more", x.fly(0, 12, 32), 0);
        Check.refused(x, "14: that week again", Check.STATE, () -> x.fly(0, 3, 30));
        Check.refused(x, "14: that week again, out of range", Check.ARGUMENT, () -> x.fly(0, 3, 72));
        Check.due("14: 3 less", x.fly(0, 4, 27), 1);
        Check.due("14: 3 more", x.fly(0, 5, 33), 2);
        Check.due("14: in time", x.fly(0, 6, 30), 2);
        Check.due("14: not gone", x.seriesOf(0, 11), 0);
        Check.due("14: the third one", x.fly(0, 7, 0), 3);
        Check.due("14: gone", x.seriesOf(0, 11), 1);
        Check.due("14: used with those off", x.seriesOf(0, 9), 6);
        Check.due("14: off", x.seriesOf(0, 10), 3);
        Check.due("14: no slots", x.load(0, 2, 2, 5, 0, 71), 0);
        Check.refused(x, "14: gone", Check.STATE, () -> x.fly(0, 8, 30));
        Check.refused(x, "14: gone, not its week", Check.ARGUMENT, () -> x.fly(0, 13, 30));
        Real y = new Real();
        y.declare(0, 2, 1, 1);
        y.request(0, 0, 0, 0, 30, 0, 9, 0, -1);
        y.request(1, 0, 0, 0, 30, 0, 9, 0, -1);
        y.confer();
        for (int week = 0; week < 3; week++) {
            y.fly(0, week, 71);
        }
        Check.due("14: nobody waits less", y.requestOf(1, 0), SlotConference.OFFERED);
        Check.due("14: though it fits", y.requestOf(1, 5), 0);
        y.request(2, 0, 0, 5, 30, 0, 9, 0, -1);
        y.confer();
        Check.due("14: but by the next that is given back", y.giveBack(1, 5), 1);
    }

    private static void promise15() {
        Real x = one(3, 12);
        Check.refusedBoolean(x, "15: airport", Check.INDEX, () -> x.close(4, 9, 99));
        Check.refusedBoolean(x, "15: airport -1", Check.INDEX, () -> x.close(-1, 0, 0));
        int[][] wrong = {{-1, 0}, {7, 0}, {0, -1}, {0, 20}, {MIN, MAX}};
        for (int[] w : wrong) {
            Check.refusedBoolean(x, "15: range", Check.ARGUMENT, () -> x.close(0, w[0], w[1]));
        }
        Check.due("15: was open", x.close(0, 2, 5), true);
        Check.due("15: was closed", x.close(0, 2, 5), false);
        Check.due("15: another week", x.close(0, 2, 13), true);
        Check.due("15: another weekday", x.close(0, 3, 6), true);
        Check.due("15: another airport", x.close(1, 2, 7), true);
        Check.due("15: used by its own closing alone", x.seriesOf(0, 9), 1);
        Check.due("15: a flight on a closed day", x.fly(0, 5, 30), 0);
        Check.due("15: that week once", x.seriesOf(0, 9), 1);
        x.giveBack(0, 4);
        Check.due("15: given back", x.seriesOf(0, 9), 0);
        x.close(0, 2, 3);
        Check.due("15: one week", x.seriesOf(0, 9), 1);
        Real y = one(3, 12);
        y.giveBack(0, 0);
        y.close(0, 2, 8);
        Check.due("15: behind its going, too", y.seriesOf(0, 9), 1);
        y.end();
        Check.due("15: open again", y.close(0, 2, 8), true);
        Check.due("15: the ends", y.close(3, 6, 19), true);
        Check.due("15: closed then", y.close(3, 6, 19), false);
        Real z = new Real();
        z.close(0, 0, 0);
        z.request(0, 0, 0, 0, 30, 0, 0, 0, -1);
        Check.due("15: a closed day may be given", z.confer(), 1);
        Check.due("15: closed ahead of the giving", z.seriesOf(0, 9), 1);
    }

    private static void promise16() {
        Real x = new Real();
        int[] lasts = {4, 4, 3, 9, 9, 19, 19, 5};
        int[] flights = {4, 3, 4, 8, 7, 16, 15, 5};
        for (int i = 0; i < lasts.length; i++) {
            x.request(i, 0, i % 2, i % 7, 30 + i, 0, lasts[i], i, -1);
        }
        x.confer();
        for (int i = 0; i < lasts.length; i++) {
            int series = x.requestOf(i, 2);
            for (int week = 0; week < flights[i]; week++) {
                x.fly(series, week, 30 + i);
            }
        }
        x.lease(x.requestOf(0, 2), 9);
        Check.due("16: four rights", x.end(), 4);
        // In the order of the series: 20 weeks, 10 weeks, 6 weeks, 5 weeks.
        int[] earned = {5, 3, 7, 0};
        for (int i = 0; i < earned.length; i++) {
            int carrier = earned[i];
            int[] want = {carrier, 0, carrier % 2, carrier % 7, 30 + carrier, 0, lasts[carrier], carrier, -1};
            for (int what = 0; what <= 8; what++) {
                Check.due("16: right " + i + ", " + what, x.rightOf(i, what), want[what]);
            }
        }
        Check.due("16: the season", x.season(), 1);
        Check.due("16: rights are left by a season", x.end(), 0);
        Check.due("16: none", x.rights(), 0);
    }

    private static void whatStaysBehindASeason() {
        Real x = new Real();
        x.declare(0, 2, 6, 1);
        x.curfew(1, 10, 20);
        x.quota(2, 3);
        x.request(0, 0, 0, 0, 30, 0, 9, 0, -1);
        x.request(1, 0, 0, 0, 30, 0, 9, 0, -1);
        x.request(2, 0, 0, 0, 3, 0, 9, 9, -1);
        x.confer();
        Check.due("16: noise", x.noise(0), 90);
        x.end();
        for (int what = 0; what <= 5; what++) {
            Check.due("16: nothing to count", x.count(what), 0);
        }
        Check.due("16: no noise", x.noise(0), 0);
        Check.due("16: no load", x.load(0, 2, 0, 0, 0, 71), 0);
        Check.refused(x, "16: no series", Check.INDEX, () -> x.seriesOf(0, 0));
        Check.refused(x, "16: no request", Check.INDEX, () -> x.requestOf(0, 0));
        int first = x.request(3, 0, 0, 0, 30, 0, 9, 0, -1);
        int second = x.request(4, 0, 0, 0, 30, 0, 9, 0, -1);
        Check.due("16: anew", first, 0);
        Check.due("16: nobody was given ahead", x.requestOf(second, 5), 0);
        x.confer();
        Check.due("16: rules stay", x.requestOf(second, 5), 10);
        Check.due("16: nobody waits from ahead", x.ahead(second), 0);
        Check.due("16: curfews stay", x.requestOf(x.request(0, 1, 0, 0, 10, 0, 0, 0, -1), 5), 1);
        Check.due("16: quotas stay", x.quota(2, 0), 3);
        Check.due("16: flights are gone", x.fly(0, 0, 30), 0);
        Check.due("16: uses", x.seriesOf(0, 9), 1);
        Real y = new Real();
        y.request(0, 0, 0, 0, 30, 0, 19, 0, -1);
        y.request(1, 0, 0, 0, 40, 0, 5, 0, -1);
        y.confer();
        for (int week = 0; week < 4; week++) {
            y.fly(0, week, 31);
            y.fly(1, week, 40);
        }
        y.giveBack(0, 5);
        y.swap(0, 1);
        Check.due("16: by the weeks that are left", y.end(), 1);
        Check.due("16: of its holder", y.rightOf(0, 0), 1);
        Check.due("16: its last week", y.rightOf(0, 6), 4);
        offersBecomeRights();
        seriesBeginAnew();
    }

    private static void seriesBeginAnew() {
        Real x = one(0, 9);
        for (int week = 0; week < 3; week++) {
            x.fly(0, week, 71);
        }
        x.end();
        x.request(3, 2, 0, 5, 40, 1, 6, 2, -1);
        x.confer();
        int[] want = {3, 3, 2, 0, 5, 40, 1, 6, 0, 0, 0, 0};
        for (int what = 0; what <= 11; what++) {
            Check.due("16: the series 0 anew, " + what, x.seriesOf(0, what), want[what]);
        }
    }

    private static void offersBecomeRights() {
        Real x = new Real();
        x.curfew(0, 30, 31);
        x.request(0, 0, 0, 0, 30, 0, 4, 7, -1);
        x.confer();
        x.accept(0);
        for (int week = 0; week < 4; week++) {
            x.close(0, 0, week);
        }
        Check.due("16: by closings alone", x.end(), 1);
        Check.due("16: its time as it was given", x.rightOf(0, 4), 29);
        Check.due("16: its noise", x.rightOf(0, 7), 7);
    }

    private static void promise23() {
        Real x = one(3, 12);
        int[] want = {1, 1, 0, 1, 2, 30, 3, 12, 0, 0, 0, 0};
        for (int what = 0; what <= 11; what++) {
            Check.due("23: " + what, x.seriesOf(0, what), want[what]);
        }
        x.lease(0, 6);
        x.fly(0, 4, 10);
        x.close(0, 2, 5);
        x.giveBack(0, 9);
        x.giveBack(0, 0);
        int[] gone = {1, 6, 0, 1, 2, 30, 3, 8, 0, 2, 1, 1};
        for (int what = 0; what <= 11; what++) {
            Check.due("23: gone, " + what, x.seriesOf(0, what), gone[what]);
        }
        int[] no = {-1, 1, MIN, MAX};
        for (int n : no) {
            Check.refused(x, "23: series " + n, Check.INDEX, () -> x.seriesOf(n, 12));
        }
        int[] what = {-1, 12, MIN, MAX};
        for (int w : what) {
            Check.refused(x, "23: what " + w, Check.ARGUMENT, () -> x.seriesOf(0, w));
        }
    }

    private static void promise24() {
        Real x = one(3, 12);
        for (int week = 3; week < 10; week++) {
            x.fly(0, week, 30);
        }
        Check.due("24: 7 of 10", x.earns(0), false);
        x.close(0, 2, 12);
        Check.due("24: 8 of 10", x.earns(0), true);
        x.giveBack(0, 12);
        Check.due("24: 7 of 9", x.earns(0), false);
        x.giveBack(0, 11);
        Check.due("24: 7 of 8", x.earns(0), true);
        x.giveBack(0, 8);
        Check.due("24: 5 of 5", x.earns(0), true);
        x.giveBack(0, 7);
        Check.due("24: 4 weeks are too few", x.earns(0), false);
        Real y = one(3, 12);
        for (int week = 3; week < 13; week++) {
            y.fly(0, week, 30);
        }
        Check.due("24: all", y.earns(0), true);
        y.giveBack(0, 0);
        Check.due("24: gone", y.earns(0), false);
        Check.due("24: no right then", y.end(), 0);
        Check.refusedBoolean(y, "24: no such series", Check.INDEX, () -> y.earns(0));
        Check.refusedBoolean(x, "24: series -1", Check.INDEX, () -> x.earns(-1));
    }

    private static void promises25And26() {
        Real x = RequestsTest.withRight();
        Check.due("25: one", x.rights(), 1);
        int[] want = {1, 0, 0, 2, 30, 3, 12, 4, -1};
        for (int what = 0; what <= 8; what++) {
            Check.due("26: " + what, x.rightOf(0, what), want[what]);
        }
        x.request(0, 0, 0, 0, 0, 0, 0, 0, -1);
        x.request(1, 0, 0, 2, 33, 3, 12, 4, 0);
        Check.due("26: claimed", x.rightOf(0, 8), 1);
        Check.due("26: as it was", x.rightOf(0, 4), 30);
        x.confer();
        Check.due("25: rights stay by a conference", x.rights(), 1);
        Check.due("26: claimed still", x.rightOf(0, 8), 1);
        int[] no = {-1, 1, MIN, MAX};
        for (int n : no) {
            Check.refused(x, "26: right " + n, Check.INDEX, () -> x.rightOf(n, 9));
        }
        int[] what = {-1, 9, MIN, MAX};
        for (int w : what) {
            Check.refused(x, "26: what " + w, Check.ARGUMENT, () -> x.rightOf(0, w));
        }
    }

    private static void promise27() {
        Real x = RequestsTest.withRight();
        x.request(1, 0, 0, 2, 30, 3, 12, 4, 0);
        x.confer();
        Check.due("27: a right, claimed, and a series", x.isNew(1, 0), true);
        x.request(1, 0, 0, 5, 30, 3, 12, 4, -1);
        Check.due("27: a request counts not", x.isNew(1, 0), true);
        x.confer();
        Check.due("27: three together", x.isNew(1, 0), false);
        Check.due("27: another airport", x.isNew(1, 1), true);
        Check.due("27: another carrier", x.isNew(2, 0), true);
        x.request(3, 0, 0, 6, 30, 0, 0, 0, -1);
        x.confer();
        x.lease(1, 2);
        Check.due("27: a user counts not", x.isNew(2, 0), true);
        Check.due("27: the holder does", x.isNew(1, 0), false);
        x.merge(3, 1);
        Check.due("27: its group", x.isNew(3, 0), false);
        x.giveBack(1, 0);
        Check.due("27: three still", x.isNew(3, 0), false);
        x.giveBack(2, 0);
        Check.due("27: two", x.isNew(3, 0), true);
        Check.refusedBoolean(x, "27: carrier", Check.INDEX, () -> x.isNew(10, 0));
        Check.refusedBoolean(x, "27: carrier -1", Check.INDEX, () -> x.isNew(-1, 0));
        Check.refusedBoolean(x, "27: airport", Check.INDEX, () -> x.isNew(0, 4));
        Check.refusedBoolean(x, "27: airport -1", Check.INDEX, () -> x.isNew(0, -1));
        Real y = new Real();
        for (int i = 0; i < 4; i++) {
            y.request(i == 3 ? 1 : 0, 0, 0, i, 30, 0, 0, 0, -1);
        }
        y.confer();
        Check.due("27: three series", y.isNew(0, 0), false);
        y.swap(0, 3);
        Check.due("27: a swap moves one, and brings one", y.isNew(0, 0), false);
        y.fly(0, 0, 71);
        Check.due("27: not gone by one flight", y.isNew(0, 0), false);
    }

    private static void rightsOfOthers() {
        Real x = RequestsTest.withRight();
        for (int i = 0; i < 4; i++) {
            x.request(1 + i / 2, 1 - i / 2, 0, i, 30, 0, 9, 0, -1);
        }
        x.confer();
        Check.due("27: two series, and a right of another airport", x.isNew(1, 1), true);
        Check.due("27: two series, and a right of another carrier", x.isNew(2, 0), true);
        x.request(1, 0, 0, 0, 30, 0, 9, 0, -1);
        x.request(1, 0, 0, 1, 30, 0, 9, 0, -1);
        x.confer();
        Check.due("27: two series and a right that nobody claims", x.isNew(1, 0), false);
    }

    private static void promise28() {
        Real x = new Real();
        x.declare(0, 2, 1, 1);
        x.curfew(1, 20, 40);
        x.request(0, 0, 0, 0, 30, 0, 9, 0, -1);
        x.request(1, 0, 0, 0, 30, 0, 9, 0, -1);
        x.request(2, 0, 0, 0, 30, 0, 9, 0, -1);
        x.request(3, 1, 0, 0, 30, 0, 9, 0, -1);
        x.request(4, 2, 0, 0, 30, 0, 9, 0, -1);
        x.request(5, 2, 0, 0, 30, 0, 9, 0, -1);
        x.confer();
        x.giveBack(1, 0);
        x.request(6, 2, 0, 0, 30, 0, 9, 0, -1);
        int[] want = {7, 3, 2, 1, 3, 1};
        for (int what = 0; what <= 5; what++) {
            Check.due("28: " + what, x.count(what), want[what]);
        }
        int[] what = {-1, 6, MIN, MAX};
        for (int w : what) {
            Check.refused(x, "28: what " + w, Check.ARGUMENT, () -> x.count(w));
        }
    }
}
