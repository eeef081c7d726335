/** 'Terms', 'Series, flights': a test for each sentence that names a bound. */
public final class TermsSeriesTest {
    public static void main(String[] args) {
        carrierAtFirst();
        givenBackFromEachWeek();
        givenBackTwice();
        laterFlightsCountNoMore();
        goneTellsItsWeeks();
        whoIsLookedAt();
        lookedAtInTheirOrder();
        givenAtTheirOwnTime();
        manyAreGiven();
        swapped();
        leased();
        offOrNot();
        thirdOneOff();
        usedWeeks();
        closingsOfOthers();
        nobodyWaitsLess();
        fiveWeeks();
        eightyParts();
        orderOfRights();
        whatIsGone();
        twentySeasons();
        counts();
        Check.finish();
    }

    private static int ask(Conference x, int carrier, int airport, int weekday, int time, int weeks) {
        return Scenes.ask(x, carrier, airport, weekday, time, weeks);
    }

    /** A series of carrier 1 at airport 0, a departure on weekday 2 at 30. */
    private static Real one(int first, int last) {
        Real x = new Real();
        x.request(1, 0, 1, 2, 30, first, last, 4, -1);
        x.confer();
        return x;
    }

    /** "A series has a holder and a user, its carrier at first": behind a conference, an offer, and a return. */
    private static void carrierAtFirst() {
        Real x = new Real();
        x.declare(0, 2, 1, 1);
        for (int i = 0; i < 3; i++) {
            ask(x, 7 + i, 0, 0, 30, 5);
        }
        x.confer();
        x.accept(1);
        x.lease(0, 0);
        x.giveBack(0, 0);
        int[] carriers = {7, 8, 9};
        for (int i = 0; i < 3; i++) {
            Check.due("first: holder", x.seriesOf(i, 0), carriers[i]);
            Check.due("first: user", x.seriesOf(i, 1), i == 0 ? 0 : carriers[i]);
            Check.due("first: request", x.seriesOf(i, 8), i);
        }
    }

    /** "it lasts up to the week ahead then, or it is gone, if that was its first week or one ahead of it". */
    private static void givenBackFromEachWeek() {
        int[][] spans = {{3, 7}, {0, 19}, {0, 0}, {19, 19}, {0, 1}, {18, 19}};
        for (int[] span : spans) {
            for (int week = 0; week < 20; week++) {
                Real x = one(span[0], span[1]);
                String what = "given back: " + span[0] + " to " + span[1] + " from " + week;
                int from = week;
                if (week > span[1]) {
                    Check.refused(x, what, Check.STATE, () -> x.giveBack(0, from));
                    continue;
                }
                Check.due(what, x.giveBack(0, week), 0);
                boolean gone = week <= span[0];
                Check.due(what + ", gone", x.seriesOf(0, 11), gone ? 1 : 0);
                Check.due(what + ", first", x.seriesOf(0, 6), span[0]);
                Check.due(what + ", last", x.seriesOf(0, 7), gone ? span[1] : week - 1);
                Check.due(what + ", counted as gone", x.count(5), gone ? 1 : 0);
                for (int day = 0; day < 20; day++) {
                    boolean there = !gone && day >= span[0] && day < week;
                    Check.due(what + ", load in " + day, x.load(0, 1, 2, day, 30, 30), there ? 1 : 0);
                }
            }
        }
    }

    /** "@throws IllegalStateException if it is gone, or its last week is below that". */
    private static void givenBackTwice() {
        Real x = one(3, 12);
        x.giveBack(0, 9);
        Check.refused(x, "twice: its last week is 8", Check.STATE, () -> x.giveBack(0, 9));
        Check.due("twice: its last week", x.giveBack(0, 8), 0);
        Check.due("twice: is 7", x.seriesOf(0, 7), 7);
        x.giveBack(0, 4);
        Check.refused(x, "twice: its last week is 3", Check.STATE, () -> x.giveBack(0, 4));
        x.giveBack(0, 3);
        for (int week = 0; week < 20; week++) {
            int from = week;
            Check.refused(x, "twice: gone", Check.STATE, () -> x.giveBack(0, from));
        }
    }

    /** "flights of later weeks count no more as used". */
    private static void laterFlightsCountNoMore() {
        for (int week = 4; week <= 12; week++) {
            Real x = one(3, 12);
            for (int flown = 3; flown <= 12; flown++) {
                x.fly(0, flown, flown % 5 == 0 ? 35 : 31);
            }
            x.close(0, 2, 3);
            x.close(0, 2, 12);
            Check.due("later flights: all", x.seriesOf(0, 9), 10);
            x.giveBack(0, week);
            Check.due("later flights: used up to " + week, x.seriesOf(0, 9), week - 3);
            Check.due("later flights: off so far", x.seriesOf(0, 10), 2);
            int after = week;
            Check.refused(x, "later flights: none any more", Check.ARGUMENT, () -> x.fly(0, after, 30));
            Check.refused(x, "later flights: it had one", Check.STATE, () -> x.fly(0, after - 1, 30));
        }
    }

    /** "or it is gone, ..., and tells its weeks as they were"; "as told, else as it was last if it is gone". */
    private static void goneTellsItsWeeks() {
        for (int week = 0; week <= 3; week++) {
            Real x = one(3, 12);
            x.fly(0, 5, 30);
            x.fly(0, 12, 40);
            x.lease(0, 9);
            x.giveBack(0, week);
            x.close(0, 2, 3);
            x.close(0, 2, 2);
            x.close(0, 2, 12);
            x.close(0, 2, 13);
            int[] want = {1, 9, 0, 1, 2, 30, 3, 12, 0, 3, 1, 1};
            for (int what = 0; what <= 11; what++) {
                Check.due("gone: from " + week + ", " + what, x.seriesOf(0, what), want[what]);
            }
            Check.due("gone: earns nothing", x.earns(0), false);
            Check.due("gone: its request is given", x.requestOf(0, 0), SlotConference.GIVEN);
            Check.due("gone: its request's series", x.requestOf(0, 2), 0);
        }
    }

    /** "all that wait at its airport, OFFERED or WAITING, without a link, are looked at". */
    private static void whoIsLookedAt() {
        Real x = new Real();
        x.curfew(0, 20, 40);
        x.curfew(1, 20, 40);
        int waiting = ask(x, 0, 0, 0, 30, 5);
        int offered = ask(x, 1, 0, 0, 21, 5);
        int linked = ask(x, 2, 0, 0, 30, 5);
        int other = ask(x, 2, 1, 0, 30, 5);
        int elsewhere = ask(x, 3, 1, 0, 30, 5);
        ask(x, 4, 0, 0, 50, 5);
        ask(x, 4, 0, 1, 50, 5);
        ask(x, 4, 0, 2, 50, 5);
        x.link(linked, other);
        Check.due("looked at: given", x.confer(), 3);
        Check.due("looked at: waiting", x.requestOf(waiting, 0), SlotConference.WAITING);
        Check.due("looked at: offered", x.requestOf(offered, 0), SlotConference.OFFERED);
        int asked = ask(x, 5, 0, 0, 30, 5);
        Check.due("looked at: none fits", x.giveBack(0, 0), 0);
        x.curfew(0, 0, 0);
        x.curfew(1, 0, 0);
        Check.due("looked at: by fewer weeks, too", x.giveBack(1, 4), 2);
        int[] states = {1, 1, 3, 3, 3};
        int[] requests = {waiting, offered, linked, other, elsewhere};
        for (int i = 0; i < states.length; i++) {
            Check.due("looked at: request " + requests[i], x.requestOf(requests[i], 0), states[i]);
        }
        Check.due("looked at: one that is only asked", x.requestOf(asked, 0), SlotConference.ASKED);
        Check.due("looked at: none is left", x.giveBack(2, 0), 0);
        Check.due("looked at: linked ones wait on", x.ahead(linked) * 10 + x.ahead(other), 0);
    }

    /** "in their order": each with those given that were ahead of it, and nobody is looked at twice. */
    private static void lookedAtInTheirOrder() {
        Real x = new Real();
        x.declare(0, 2, 6, 1);
        int there = x.request(0, 0, 0, 0, 30, 0, 19, 0, -1);
        int first = x.request(1, 0, 0, 0, 28, 0, 9, 0, -1);
        int second = x.request(2, 0, 0, 0, 32, 2, 10, 0, -1);
        int third = x.request(3, 0, 0, 0, 31, 10, 17, 0, -1);
        int fourth = x.request(4, 0, 0, 0, 33, 18, 19, 0, -1);
        x.confer();
        Check.due("order: only the longest is given", x.requestOf(there, 2), 0);
        Check.due("order: three are given", x.giveBack(0, 0), 3);
        Check.due("order: the first one", x.requestOf(first, 2), 1);
        Check.due("order: the second one does not fit then", x.requestOf(second, 0), SlotConference.WAITING);
        Check.due("order: the third one", x.requestOf(third, 2), 2);
        Check.due("order: the fourth one", x.requestOf(fourth, 2), 3);
        Check.due("order: the second one is first now", x.ahead(second), 0);
        Check.due("order: in one's weeks alone", x.giveBack(1, 2), 0);
        Check.due("order: in both's weeks", x.giveBack(2, 0), 1);
        Check.due("order: the second one then", x.requestOf(second, 2), 4);
    }

    /** "are GIVEN, if they fit at their own time", not at the time that is offered. */
    private static void givenAtTheirOwnTime() {
        Real x = new Real();
        x.declare(0, 2, 1, 1);
        ask(x, 0, 0, 0, 30, 5);
        ask(x, 1, 0, 0, 30, 5);
        ask(x, 2, 0, 5, 50, 5);
        x.confer();
        Check.due("own time: 29 is offered", x.requestOf(1, 3), 29);
        Check.due("own time: it does not fit, though the offer does", x.giveBack(1, 0), 0);
        Check.due("own time: offered still", x.requestOf(1, 3), 29);
        Check.due("own time: free", x.giveBack(0, 0), 1);
        Check.due("own time: at 30", x.seriesOf(2, 5), 30);
        Check.refusedBoolean(x, "own time: no offer any more", Check.STATE, () -> x.accept(1));
    }

    /** All that there may be: one series is given back, and 59 that wait are given. */
    private static void manyAreGiven() {
        Real x = new Real();
        x.curfew(0, 0, 72);
        for (int i = 0; i < 59; i++) {
            ask(x, i % 10, 0, i % 7, 30, 5);
        }
        Check.due("many: none is given", x.confer(), 0);
        Check.due("many: the last one waits", x.ahead(58), 58);
        x.curfew(0, 0, 0);
        ask(x, 0, 0, 0, 30, 5);
        x.confer();
        Check.due("many: all of them", x.giveBack(0, 4), 59);
        Check.due("many: series", x.count(4), 60);
        Check.due("many: the last one's series", x.requestOf(58, 2), 59);
        Check.due("many: none waits", x.count(2) + x.count(3), 0);
        nobodyIsLeftFromASeasonAhead();
    }

    private static void nobodyIsLeftFromASeasonAhead() {
        Real x = new Real();
        x.curfew(0, 0, 72);
        for (int i = 0; i < 60; i++) {
            ask(x, i % 10, 0, i % 7, 30, 1 + i / 3);
        }
        x.confer();
        x.end();
        x.curfew(0, 30, 31);
        ask(x, 0, 0, 0, 40, 5);
        ask(x, 1, 0, 0, 30, 5);
        Check.due("season ahead: one is given", x.confer(), 1);
        Check.due("season ahead: one waits", x.ahead(1), 0);
        Check.due("season ahead: none fits", x.giveBack(0, 4), 0);
        x.curfew(0, 0, 0);
        Check.due("season ahead: the one that waits", x.giveBack(0, 0), 1);
        Check.due("season ahead: series", x.count(4), 2);
    }

    /** "Two series of an airport can be swapped: each gets the holder and user of the other one." */
    private static void swapped() {
        Real x = Scenes.given(0, 9);
        x.lease(2, 8);
        x.lease(5, 9);
        x.swap(5, 2);
        int[][] want = {{0, 0}, {1, 1}, {5, 9}, {3, 3}, {4, 4}, {2, 8}};
        for (int i = 0; i < want.length; i++) {
            Check.due("swap: holder of " + i, x.seriesOf(i, 0), want[i][0]);
            Check.due("swap: user of " + i, x.seriesOf(i, 1), want[i][1]);
            int[] own = {0, i % 2, i, 30, 0, 9, i, 0, 0, 0};
            for (int what = 2; what <= 11; what++) {
                Check.due("swap: all else of " + i + ", " + what, x.seriesOf(i, what), own[what - 2]);
            }
        }
        for (int week = 0; week < 8; week++) {
            x.fly(2, week, 30);
        }
        x.swap(2, 0);
        x.end();
        Check.due("swap: one right", x.rights(), 1);
        Check.due("swap: of its holder", x.rightOf(0, 0), 0);
        Check.due("swap: of the flights that it had", x.rightOf(0, 3), 2);
    }

    /** "A lease changes the user", also to the holder, and to the one that it is. */
    private static void leased() {
        Real x = one(0, 4);
        int[] users = {0, 9, 9, 1, 1, 5};
        int before = 1;
        for (int user : users) {
            Check.due("lease: who it was", x.lease(0, user), before);
            Check.due("lease: the user", x.seriesOf(0, 1), user);
            Check.due("lease: the holder", x.seriesOf(0, 0), 1);
            before = user;
        }
        for (int week = 0; week < 4; week++) {
            x.fly(0, week, 30);
        }
        x.end();
        Check.due("lease: the right is the holder's", x.rightOf(0, 0), 1);
    }

    /** "more than 2 times away from its own it is off". */
    private static void offOrNot() {
        int[] times = {0, 2, 30, 69, 71};
        for (int time : times) {
            for (int flown = Math.max(0, time - 5); flown <= Math.min(71, time + 5); flown++) {
                Real x = new Real();
                ask(x, 0, 0, 0, time, 5);
                x.confer();
                int off = flown < time - 2 || flown > time + 2 ? 1 : 0;
                Check.due("off: at " + time + ", flown at " + flown, x.fly(0, 2, flown), off);
                Check.due("off: told", x.seriesOf(0, 10), off);
                Check.due("off: used all the same", x.seriesOf(0, 9), 1);
                Check.due("off: the next one", x.fly(0, 3, time), off);
            }
        }
        Real x = new Real();
        ask(x, 0, 0, 0, 0, 5);
        ask(x, 1, 0, 1, 71, 5);
        x.confer();
        Check.due("off: as far as can be", x.fly(0, 0, 71) + x.fly(1, 0, 0), 2);
        Real y = Scenes.offered();
        y.accept(0);
        Check.due("off: its own time is the one that is given", y.fly(0, 0, 31), 0);
        Check.due("off: 3 from that", y.fly(0, 1, 32), 1);
    }

    /** "With the third one that is off the series is gone": with the second one it is not. */
    private static void thirdOneOff() {
        for (int inTime = 0; inTime <= 6; inTime++) {
            Real x = one(0, 9);
            int free = 9 - inTime;
            for (int i = 0; i < inTime; i++) {
                x.fly(0, 9 - i, 30);
            }
            for (int off = 1; off <= 3; off++) {
                Check.due("third: before, " + off, x.seriesOf(0, 11), 0);
                Check.due("third: off " + off, x.fly(0, off - 1, 33), off);
            }
            Check.due("third: gone", x.seriesOf(0, 11), 1);
            Check.due("third: its weeks as they were", x.seriesOf(0, 6) * 100 + x.seriesOf(0, 7), 9);
            Check.due("third: used", x.seriesOf(0, 9), inTime + 3);
            Check.due("third: no slots", x.load(0, 2, 2, 9, 0, 71), 0);
            Check.refused(x, "third: no flight any more", Check.STATE, () -> x.fly(0, free, 30));
            Check.refused(x, "third: no return", Check.STATE, () -> x.giveBack(0, 0));
            Check.refused(x, "third: no lease", Check.STATE, () -> x.lease(0, 0));
            Check.due("third: no right", x.earns(0), false);
        }
        Real x = one(0, 9);
        x.fly(0, 8, 0);
        x.fly(0, 9, 0);
        x.giveBack(0, 8);
        Check.due("third: those of weeks that were given back are off, too", x.fly(0, 0, 0), 3);
    }

    /** "Of a week that was closed for its airport and weekday, and of one with a flight, it was used": once. */
    private static void usedWeeks() {
        for (int causes = 0; causes < 4; causes++) {
            for (int first = 0; first < 2; first++) {
                Real x = one(5, 14);
                for (int i = 0; i < 2; i++) {
                    if (i == first && (causes & 1) != 0) {
                        x.close(0, 2, 8);
                    }
                    if (i != first && (causes & 2) != 0) {
                        x.fly(0, 8, 30);
                    }
                }
                Check.due("used: causes " + causes, x.seriesOf(0, 9), causes == 0 ? 0 : 1);
            }
        }
        Real x = one(5, 14);
        for (int week = 0; week < 20; week++) {
            Check.due("used: was open", x.close(0, 2, week), true);
            Check.due("used: by closings up to " + week, x.seriesOf(0, 9), Math.max(0, Math.min(10, week - 4)));
            Check.due("used: was closed", x.close(0, 2, week), false);
        }
        Check.due("used: none is off by a closing", x.seriesOf(0, 10), 0);
        Check.due("used: a flight on a closed day", x.fly(0, 5, 30), 0);
        Check.due("used: all weeks", x.seriesOf(0, 9), 10);
    }

    private static void closingsOfOthers() {
        Real x = one(0, 19);
        for (int airport = 0; airport < 4; airport++) {
            for (int weekday = 0; weekday < 7; weekday++) {
                x.close(airport, weekday, airport * 5 + weekday / 2);
            }
        }
        Check.due("closed: its own airport and weekday alone", x.seriesOf(0, 9), 1);
        for (int airport = 0; airport < 4; airport++) {
            for (int weekday = 0; weekday < 7; weekday++) {
                Check.due("closed: each is told once", x.close(airport, weekday, airport * 5 + weekday / 2), false);
            }
        }
        Check.due("closed: another week is open", x.close(3, 6, 19), true);
        Real y = new Real();
        for (int week = 0; week < 4; week++) {
            y.close(0, 0, week);
        }
        ask(y, 0, 0, 0, 30, 5);
        Check.due("closed: a closing bars nobody", y.confer(), 1);
        Check.due("closed: what was told ahead counts", y.seriesOf(0, 9), 4);
        Check.due("closed: it earns by that alone", y.earns(0), true);
    }

    /** "Nobody waits less by a series that is gone so." */
    private static void nobodyWaitsLess() {
        Real x = new Real();
        x.declare(0, 2, 6, 1);
        ask(x, 0, 0, 0, 30, 10);
        ask(x, 1, 0, 0, 30, 9);
        ask(x, 2, 0, 0, 31, 8);
        x.confer();
        for (int week = 0; week < 3; week++) {
            x.fly(0, week, 60);
        }
        Check.due("waits: as before", x.ahead(1) * 10 + x.ahead(2), 1);
        Check.due("waits: nobody is given", x.count(1) * 10 + x.count(4), 11);
        Check.due("waits: though they fit", x.requestOf(1, 5) + x.requestOf(2, 5), 0);
        ask(x, 3, 0, 3, 30, 1);
        x.confer();
        Check.due("waits: nor by a conference", x.ahead(2), 1);
    }

    /** "has 5 weeks or more". */
    private static void fiveWeeks() {
        for (int weeks = 1; weeks <= 20; weeks++) {
            Real x = new Real();
            ask(x, 0, 0, 0, 30, weeks);
            x.confer();
            for (int week = 0; week < weeks; week++) {
                Check.due("five: not yet with " + week + " of " + weeks, x.earns(0), weeks >= 5 && week * 5 >= weeks * 4);
                x.fly(0, week, 30);
            }
            Check.due("five: all of " + weeks, x.earns(0), weeks >= 5);
            Check.due("five: rights of " + weeks, x.end(), weeks >= 5 ? 1 : 0);
        }
        Real x = one(10, 19);
        for (int week = 10; week < 20; week++) {
            x.fly(0, week, 30);
        }
        x.giveBack(0, 15);
        Check.due("five: five are left", x.earns(0), true);
        x.giveBack(0, 14);
        Check.due("five: four are left", x.earns(0), false);
    }

    /** "was used in at least 80 of 100 parts of them". */
    private static void eightyParts() {
        int[][] least = {
            {5, 4}, {6, 5}, {7, 6}, {8, 7}, {9, 8}, {10, 8}, {11, 9}, {12, 10}, {13, 11}, {14, 12}, {15, 12}, {16, 13},
            {17, 14}, {18, 15}, {19, 16}, {20, 16}
        };
        for (int[] l : least) {
            for (int used = l[1] - 1; used <= l[1]; used++) {
                Real x = new Real();
                ask(x, 0, 0, 0, 30, l[0]);
                x.confer();
                for (int week = 0; week < used; week++) {
                    if (week % 3 == 0) {
                        x.close(0, 0, l[0] - 1 - week);
                    } else {
                        x.fly(0, l[0] - 1 - week, week < 3 ? 40 : 30);
                    }
                }
                Check.due("eighty: " + used + " of " + l[0], x.earns(0), used == l[1]);
                Check.due("eighty: right, " + used + " of " + l[0], x.end(), used == l[1] ? 1 : 0);
            }
        }
    }

    /** "becomes a right of its holder, in the order of the series". */
    private static void orderOfRights() {
        Real x = Scenes.given(0, 4);
        int[] earning = {5, 1, 3};
        for (int series : earning) {
            for (int week = 0; week < 4; week++) {
                x.fly(series, week, 30);
            }
        }
        x.swap(1, 2);
        x.giveBack(0, 0);
        Check.due("rights: three", x.end(), 3);
        int[][] want = {{2, 1}, {3, 3}, {5, 5}};
        for (int i = 0; i < want.length; i++) {
            Check.due("rights: carrier of " + i, x.rightOf(i, 0), want[i][0]);
            Check.due("rights: weekday of " + i, x.rightOf(i, 3), want[i][1]);
        }
    }

    /** "all else of the season is gone, but rules, curfews, quotas and groups". */
    private static void whatIsGone() {
        Real x = Scenes.withRights();
        x.declare(0, 2, 1, 1);
        x.curfew(1, 50, 60);
        x.quota(2, 7);
        x.merge(4, 5);
        x.close(0, 0, 0);
        x.request(2, 1, 1, 3, 30, 4, 12, 5, 0);
        for (int i = 0; i < 3; i++) {
            ask(x, i, 0, 0, 30, 5);
        }
        x.confer();
        x.fly(0, 4, 30);
        ask(x, 3, 0, 0, 30, 5);
        Check.due("gone: no right is earned", x.end(), 0);
        for (int what = 0; what <= 5; what++) {
            Check.due("gone: counts", x.count(what), 0);
        }
        Check.due("gone: rights", x.rights(), 0);
        Check.due("gone: closings", x.close(0, 0, 0), true);
        Check.due("gone: loads", x.load(0, 2, 0, 0, 0, 71) + x.worst(0, 3, 0, 0) + x.noise(1), 0);
        Check.due("stays: groups", x.merge(5, 6), 3);
        Check.due("stays: rules", x.revise(0, 3, 1) * 10 + x.revise(0, 2, 20), 30);
        Check.due("stays: quotas", x.quota(2, 7), 7);
        int barred = ask(x, 0, 1, 0, 59, 1);
        int free = ask(x, 0, 1, 0, 60, 1);
        Check.due("stays: curfews", x.requestOf(barred, 5) * 10 + x.requestOf(free, 5), 10);
        Check.due("gone: nobody that was asked is given", x.confer(), 1);
    }

    /** "@throws IllegalStateException if it is the season 20": all else goes on in it. */
    private static void twentySeasons() {
        Real x = new Real();
        for (int season = 0; season < 20; season++) {
            Check.due("season: " + season, x.season(), season);
            x.request(1, 0, 0, 0, 30, 0, 4, 0, season == 0 ? -1 : 0);
            x.confer();
            for (int week = 0; week < 4; week++) {
                x.fly(0, week, 30);
            }
            Check.due("season: the right goes on", x.end(), 1);
        }
        Check.due("season: the last", x.season(), 20);
        Check.refused(x, "season: its end, with nothing asked", Check.STATE, x::end);
        Check.due("season: a claim in it", x.request(1, 0, 0, 0, 30, 0, 4, 0, 0), 0);
        Check.due("season: a conference in it", x.confer(), 1);
        for (int week = 0; week < 4; week++) {
            x.fly(0, week, 30);
        }
        Check.refused(x, "season: its end, with a series", Check.STATE, x::end);
        Check.due("season: the right of the one ahead", x.rights(), 1);
    }

    /** "0 requests, 1 given, 2 offered, 3 waiting, 4 series, also those that are gone, 5 those alone". */
    private static void counts() {
        Real x = new Real();
        x.curfew(1, 0, 72);
        x.curfew(2, 30, 31);
        due(x, 0, 0, 0, 0, 0, 0);
        int[] airports = {0, 0, 0, 0, 1, 1, 1, 2, 2};
        for (int i = 0; i < airports.length; i++) {
            ask(x, i, airports[i], 0, 30, 5);
        }
        due(x, 9, 0, 0, 0, 0, 0);
        x.confer();
        due(x, 9, 4, 2, 3, 4, 0);
        x.giveBack(0, 0);
        x.giveBack(1, 1);
        due(x, 9, 4, 2, 3, 4, 1);
        x.accept(7);
        due(x, 9, 5, 1, 3, 5, 1);
        x.curfew(2, 0, 72);
        x.accept(8);
        due(x, 9, 5, 0, 4, 5, 1);
        ask(x, 0, 0, 0, 30, 5);
        due(x, 10, 5, 0, 4, 5, 1);
        x.end();
        due(x, 0, 0, 0, 0, 0, 0);
    }

    private static void due(Real x, int... want) {
        for (int what = 0; what < want.length; what++) {
            Check.due("count " + what, x.count(what), want[what]);
        }
    }
}
