/** 'Terms', 'Airports, rules': a test for each sentence that names a bound. */
public final class TermsAirportsTest {
    public static void main(String[] args) {
        calls();
        numbersOfAirportsAndCarriers();
        weeksOfSeries();
        lengthsOfWindows();
        windowsOfOneDay();
        firstAndLastWindow();
        kindsOfRules();
        numbersOfRules();
        mostSlots();
        curfewBounds();
        curfewSetAgain();
        quotaAtFirst();
        nightBounds();
        noiseOfWeeks();
        quotaByNightAlone();
        weeksInCommon();
        orderOfReasons();
        lowestRule();
        whatIsThereStays();
        noMoreThanDeclared();
        Check.finish();
    }

    private static int reason(Conference x, int kind, int weekday, int time, int first, int last) {
        return x.requestOf(x.request(9, 0, kind, weekday, time, first, last, 0, -1), 5);
    }

    /** "An object is used for at most 512 calls after it has been made": the 512th is answered as due. */
    private static void calls() {
        Real x = new Real();
        for (int i = 0; i < 60; i++) {
            x.request(i % 10, i % 4, 0, i % 7, i, 0, 19, 1, -1);
        }
        x.confer();
        while (x.callsLeft() > 2) {
            int number = x.callsLeft();
            Check.due("calls: a flight in time", x.fly(number % 60, number / 60, number % 60), 0);
        }
        Check.due("calls: the 511th", x.count(0), 60);
        Check.due("calls: the 512th", x.count(4), 60);
        Real y = new Real();
        for (int i = 0; i < 511; i++) {
            Check.due("calls: quota", y.quota(0, i), i == 0 ? 9999 : i - 1);
        }
        Check.due("calls: quota by the 512th", y.quota(0, 1), 510);
    }

    /** "There are the airports 0 to 3 and the carriers 0 to 9": each is one of its own. */
    private static void numbersOfAirportsAndCarriers() {
        Real x = new Real();
        for (int airport = 0; airport < 4; airport++) {
            for (int i = 0; i <= airport; i++) {
                x.request(6 + airport, airport, 0, 0, 3, 0, 0, 1, -1);
            }
        }
        x.confer();
        for (int airport = 0; airport < 4; airport++) {
            Check.due("airports: noise of " + airport, x.noise(airport), airport + 1);
            Check.due("airports: load of " + airport, x.load(airport, 2, 0, 0, 0, 71), airport + 1);
            for (int carrier = 0; carrier < 10; carrier++) {
                boolean three = carrier == 6 + airport && airport >= 2;
                Check.due("airports: new at " + airport + ", " + carrier, x.isNew(carrier, airport), !three);
            }
        }
    }

    /** "from a first week to a last one, both with it", of the "weeks 0 to 19, each with the weekdays 0 to 6". */
    private static void weeksOfSeries() {
        int[][] rows = {{0, 0, 0}, {0, 19, 1}, {19, 19, 6}, {4, 5, 3}, {7, 7, 2}};
        for (int[] r : rows) {
            Real x = new Real();
            x.request(0, 0, 0, r[2], 71, r[0], r[1], 0, -1);
            x.confer();
            for (int week = 0; week < 20; week++) {
                for (int weekday = 0; weekday < 7; weekday++) {
                    boolean there = week >= r[0] && week <= r[1] && weekday == r[2];
                    Check.due("weeks: " + week + ", " + weekday, x.load(0, 0, weekday, week, 71, 71), there ? 1 : 0);
                }
            }
        }
    }

    /** "a length, 1 to 6 times": two slots that are length - 1 apart are in one window, those length apart are not. */
    private static void lengthsOfWindows() {
        for (int length = 1; length <= 6; length++) {
            Real x = new Real();
            x.declare(0, 2, length, 1);
            Scenes.ask(x, 0, 0, 0, 30, 5);
            x.confer();
            for (int far = 0; far <= 7; far++) {
                int due = far < length ? 10 : 0;
                Check.due("length " + length + ": later by " + far, reason(x, 0, 0, 30 + far, 0, 4), due);
                Check.due("length " + length + ": earlier by " + far, reason(x, 0, 0, 30 - far, 0, 4), due);
            }
            Scenes.ask(x, 1, 0, 0, 30 + length, 5);
            x.confer();
            Check.due("length " + length + ": worst", x.worst(0, 0, 0, 0), 1);
            x.revise(0, 0, 20);
            Scenes.ask(x, 1, 0, 0, 30 + length - 1, 5);
            x.confer();
            Check.due("length " + length + ": worst of two near", x.worst(0, 0, 0, 0), 2);
        }
    }

    /** "in each window of so many times one behind the other, of one day": no window goes round the end of a day. */
    private static void windowsOfOneDay() {
        for (int length = 1; length <= 6; length++) {
            Real x = new Real();
            x.declare(0, 2, length, 1);
            x.request(0, 0, 0, 3, 0, 0, 19, 0, -1);
            x.request(0, 0, 0, 3, 71, 0, 19, 0, -1);
            Check.due("one day: both ends", x.confer(), 2);
            Check.due("one day: worst", x.worst(0, 0, 3, 7), 1);
            Check.due("one day: the day behind begins", reason(x, 0, 4, 0, 0, 19), 0);
            Check.due("one day: the day ahead ends", reason(x, 0, 2, 71, 0, 19), 0);
            for (int far = 0; far <= 7; far++) {
                int due = far < length ? 10 : 0;
                Check.due("one day: from its begin " + far, reason(x, 0, 3, far, 0, 0), due);
                Check.due("one day: from its end " + far, reason(x, 0, 3, 71 - far, 19, 19), due);
            }
        }
    }

    /** The first window of a day and the last one count, with one slot at their very end. */
    private static void firstAndLastWindow() {
        for (int length = 1; length <= 6; length++) {
            int[] times = {0, 71};
            for (int time : times) {
                Real x = new Real();
                x.declare(0, 2, length, 1);
                ask(x, 0, time);
                x.confer();
                Check.due("ends: worst with one at " + time, x.worst(0, 0, 0, 0), 1);
                Check.due("ends: a second one at " + time, reason(x, 0, 0, time, 0, 0), 10);
            }
            Real x = new Real();
            ask(x, 0, 0);
            ask(x, 1, length - 1);
            ask(x, 2, 71);
            ask(x, 3, 72 - length);
            ask(x, 4, 71);
            x.confer();
            x.declare(0, 2, length, 3);
            Check.due("ends: the last window with three", x.worst(0, 0, 0, 0), 3);
            x.giveBack(4, 0);
            Check.due("ends: each with two", x.worst(0, 0, 0, 0), 2);
            x.giveBack(2, 0);
            Check.due("ends: the first window with two", x.worst(0, 0, 0, 0), 2);
            Check.due("ends: a third one in it", reason(x, 0, 0, 0, 0, 0), 0);
            x.revise(0, 0, 2);
            Check.due("ends: not by a number of 2", reason(x, 0, 0, 0, 0, 0), 10);
        }
    }

    private static void ask(Conference x, int carrier, int time) {
        Scenes.ask(x, carrier, 0, 0, time, 5);
    }

    /** "at most so many slots of the kind", "by each rule for its kind, or EITHER". */
    private static void kindsOfRules() {
        // The kind of the rule, of the slot that is there, of the wanted one, and the reason.
        int[][] rows = {
            {0, 0, 0, 10}, {0, 0, 1, 0}, {0, 1, 0, 0}, {0, 1, 1, 0}, {1, 0, 0, 0}, {1, 0, 1, 0}, {1, 1, 0, 0},
            {1, 1, 1, 10}, {2, 0, 0, 10}, {2, 0, 1, 10}, {2, 1, 0, 10}, {2, 1, 1, 10}
        };
        for (int[] r : rows) {
            Real x = new Real();
            x.declare(0, r[0], 2, 1);
            x.request(0, 0, r[1], 0, 30, 0, 9, 0, -1);
            x.confer();
            Check.due("kinds: " + r[0] + r[1] + r[2], reason(x, r[2], 0, 31, 0, 9), r[3]);
            Check.due("kinds: another airport's", x.requestOf(x.request(0, 1, r[2], 0, 31, 0, 9, 0, -1), 5), 0);
            Check.due("kinds: worst " + r[0] + r[1], x.worst(0, 0, 0, 0), r[0] == 2 || r[0] == r[1] ? 1 : 0);
            Check.due("kinds: load " + r[0] + r[1], x.load(0, r[0], 0, 0, 0, 71), r[0] == 2 || r[0] == r[1] ? 1 : 0);
        }
    }

    /** "An airport has at most 6 rules, numbered from 0": six at each one. */
    private static void numbersOfRules() {
        Real x = new Real();
        for (int rule = 0; rule < 6; rule++) {
            for (int airport = 0; airport < 4; airport++) {
                Check.due("rules: number", x.declare(airport, rule % 3, 1 + rule, 10 + rule), rule);
            }
        }
        for (int airport = 0; airport < 4; airport++) {
            int place = airport;
            Check.refused(x, "rules: a seventh one at " + airport, Check.STATE, () -> x.declare(place, 0, 1, 1));
            Check.refused(x, "rules: the number 6 of " + airport, Check.INDEX, () -> x.revise(place, 6, 1));
            Check.refused(x, "rules: worst of 6 at " + airport, Check.INDEX, () -> x.worst(place, 6, 0, 0));
        }
        x.end();
        Check.refused(x, "rules: a seventh one in a later season", Check.STATE, () -> x.declare(0, 0, 1, 1));
        for (int rule = 0; rule < 6; rule++) {
            Check.due("rules: each as it was declared", x.revise(3, rule, 0), 10 + rule);
        }
    }

    /** "at most so many slots", "0 to 20": with it, not without it. */
    private static void mostSlots() {
        int[] numbers = {0, 1, 2, 19, 20};
        for (int most : numbers) {
            Real x = new Real();
            x.declare(0, 2, 3, most);
            for (int i = 0; i < most; i++) {
                x.request(i % 10, 0, i % 2, 0, 30 + i % 3, 0, 9, 0, -1);
            }
            int one = Scenes.ask(x, 0, 0, 0, 31, 1);
            Check.due("most " + most + ": nothing is there", x.requestOf(one, 5), most == 0 ? 10 : 0);
            Check.due("most " + most + ": so many are given", x.confer(), most);
            Check.due("most " + most + ": one more", x.requestOf(one, 5), 10);
            Check.due("most " + most + ": worst", x.worst(0, 0, 0, 0), most);
            if (most > 0) {
                x.revise(0, 0, most - 1);
                x.giveBack(0, 0);
                Check.due("most " + most + ": full by one less", x.requestOf(one, 5), 10);
                x.revise(0, 0, most);
                Check.due("most " + most + ": one is gone", x.requestOf(one, 5), 0);
            }
        }
    }

    /** "Its curfew bars times from one up to another one, that one not with it, none at first." */
    private static void curfewBounds() {
        int[][] rows = {{0, 0}, {0, 1}, {0, 72}, {20, 20}, {20, 21}, {20, 40}, {71, 71}, {71, 72}, {72, 72}};
        int[] times = {0, 1, 19, 20, 21, 39, 40, 41, 70, 71};
        for (int[] r : rows) {
            Real x = new Real();
            for (int time : times) {
                Check.due("curfew: none at first", reason(x, 0, 0, time, 0, 0), 0);
            }
            x.curfew(0, r[0], r[1]);
            for (int i = 0; i < times.length; i++) {
                int due = times[i] >= r[0] && times[i] < r[1] ? 1 : 0;
                Check.due("curfew: " + r[0] + " to " + r[1] + " at " + times[i], x.requestOf(i, 5), due);
                int elsewhere = x.request(0, 1, 0, 0, times[i], 0, 0, 0, -1);
                Check.due("curfew: of another airport", x.requestOf(elsewhere, 5), 0);
            }
        }
    }

    private static void curfewSetAgain() {
        Real x = new Real();
        x.curfew(0, 10, 20);
        x.curfew(0, 19, 30);
        Check.due("curfew: the earlier one is off", reason(x, 0, 0, 18, 0, 0), 0);
        Check.due("curfew: the later one is on", reason(x, 0, 0, 19, 0, 0), 1);
        x.curfew(0, 40, 40);
        Check.due("curfew: none again", reason(x, 0, 0, 19, 0, 0) + reason(x, 0, 0, 40, 0, 0), 0);
    }

    /** "Its quota is 9999 at first", and "all these of the airport together should be at most the quota". */
    private static void quotaAtFirst() {
        Real x = new Real();
        for (int i = 0; i < 55; i++) {
            x.request(i % 10, 2, i % 2, i % 7, i % 18, 0, 19, 9, -1);
        }
        x.confer();
        Check.due("quota: 55 of 180", x.noise(2), 9900);
        int exact = x.request(0, 2, 0, 0, 5, 0, 10, 9, -1);
        int above = x.request(0, 2, 0, 0, 5, 0, 19, 5, -1);
        int elsewhere = x.request(0, 1, 0, 0, 5, 0, 19, 5, -1);
        Check.due("quota: 9999 of 9999", x.requestOf(exact, 5), 0);
        Check.due("quota: 10000 of 9999", x.requestOf(above, 5), 2);
        Check.due("quota: of another airport", x.requestOf(elsewhere, 5), 0);
        Check.due("quota: two of them are given", x.confer(), 2);
        Check.due("quota: the one for more weeks does not fit", x.requestOf(above, 0), SlotConference.WAITING);
        Check.due("quota: it is full", x.noise(2), 9999);
        int silent = x.request(0, 2, 0, 0, 5, 0, 19, 0, -1);
        int loud = x.request(0, 2, 0, 0, 5, 0, 0, 1, -1);
        Check.due("quota: full, a noise of 0", x.requestOf(silent, 5), 0);
        Check.due("quota: full, a noise of 1", x.requestOf(loud, 5), 2);
    }

    /** "if its time is below 18 or above 65, it is by night then". */
    private static void nightBounds() {
        int[] times = {0, 1, 16, 17, 18, 19, 40, 64, 65, 66, 67, 70, 71};
        for (int time : times) {
            boolean night = time < 18 || time > 65;
            Real x = new Real();
            x.request(0, 0, 0, 0, time, 0, 0, 1, -1);
            x.quota(0, 0);
            Check.due("night: the quota at " + time, x.requestOf(0, 5), night ? 2 : 0);
            x.quota(0, 1);
            Check.due("night: it fits at " + time, x.confer(), 1);
            Check.due("night: noise at " + time, x.noise(0), night ? 1 : 0);
        }
    }

    /** "the noise of a series counts once for each of its weeks", 0 to 9. */
    private static void noiseOfWeeks() {
        int[][] rows = {{0, 0, 9, 9}, {0, 19, 9, 180}, {19, 19, 1, 1}, {3, 4, 7, 14}, {0, 19, 0, 0}};
        for (int[] r : rows) {
            Real x = new Real();
            x.request(0, 3, 1, 6, 71, r[0], r[1], r[2], -1);
            if (r[3] > 0) {
                x.quota(3, r[3] - 1);
                Check.due("noise: one too many", x.requestOf(0, 5), 2);
            }
            x.quota(3, r[3]);
            Check.due("noise: just enough", x.requestOf(0, 5), 0);
            x.confer();
            Check.due("noise: all of it", x.noise(3), r[3]);
            x.close(3, 6, r[0]);
            Check.due("noise: a closed week counts", x.noise(3), r[3]);
            x.fly(0, r[0], 40);
            Check.due("noise: a flight by day changes nothing", x.noise(3), r[3]);
        }
    }

    /** "the quota would be kept, if it is by night, also with a noise of 0". */
    private static void quotaByNightAlone() {
        Real x = new Real();
        x.request(0, 0, 0, 0, 3, 0, 9, 1, -1);
        x.confer();
        int silent = x.request(0, 0, 0, 1, 17, 0, 9, 0, -1);
        int byDay = x.request(0, 0, 0, 1, 18, 0, 19, 9, -1);
        int[][] rows = {{11, 0}, {10, 0}, {9, 2}, {0, 2}};
        for (int[] r : rows) {
            x.quota(0, r[0]);
            Check.due("by night: a noise of 0 with " + r[0], x.requestOf(silent, 5), r[1]);
            Check.due("by night: by day with " + r[0], x.requestOf(byDay, 5), 0);
        }
        x.giveBack(0, 0);
        Check.due("by night: a quota of 0 is kept by a noise of 0", x.requestOf(silent, 5), 0);
        Check.due("by night: both are given", x.confer(), 2);
    }

    /** "in each of its weeks": one week in common bars, none does not. */
    private static void weeksInCommon() {
        Real x = new Real();
        x.declare(0, 2, 2, 1);
        x.request(0, 0, 0, 0, 30, 6, 12, 0, -1);
        x.confer();
        int[][] rows = {
            {0, 5, 0}, {0, 6, 10}, {6, 6, 10}, {8, 9, 10}, {12, 12, 10}, {12, 19, 10}, {13, 19, 0}, {0, 19, 10}, {5, 5, 0},
            {13, 13, 0}
        };
        for (int[] r : rows) {
            Check.due("weeks in common: " + r[0] + " to " + r[1], reason(x, 0, 0, 31, r[0], r[1]), r[2]);
        }
        Real y = new Real();
        y.declare(0, 2, 2, 2);
        y.request(0, 0, 0, 0, 30, 0, 4, 0, -1);
        y.request(1, 0, 0, 0, 30, 5, 9, 0, -1);
        y.confer();
        Check.due("weeks in common: one other in each week", reason(y, 0, 0, 30, 0, 9), 0);
        y.confer();
        Check.due("weeks in common: two others in each week", reason(y, 0, 0, 31, 4, 5), 10);
        Check.due("weeks in common: none behind them", reason(y, 0, 0, 31, 10, 19), 0);
    }

    /** "1 the curfew, otherwise 2 the quota, otherwise 10 and the lowest rule that it would break, together". */
    private static void orderOfReasons() {
        for (int causes = 0; causes < 8; causes++) {
            Real x = new Real();
            int request = x.request(0, 0, 0, 0, 17, 0, 0, 1, -1);
            if ((causes & 1) != 0) {
                x.curfew(0, 17, 18);
            }
            if ((causes & 2) != 0) {
                x.quota(0, 0);
            }
            if ((causes & 4) != 0) {
                x.declare(0, 0, 1, 0);
            }
            int due = (causes & 1) != 0 ? 1 : (causes & 2) != 0 ? 2 : (causes & 4) != 0 ? 10 : 0;
            Check.due("reasons: causes " + causes, x.requestOf(request, 5), due);
        }
    }

    private static void lowestRule() {
        for (int broken = 0; broken < 64; broken++) {
            Real x = new Real();
            for (int rule = 0; rule < 6; rule++) {
                x.declare(0, rule % 2 == 0 ? 2 : 1, 1 + rule, (broken >> rule & 1) != 0 ? 0 : 1);
            }
            int due = broken == 0 ? 0 : 10 + Integer.numberOfTrailingZeros(broken);
            Check.due("lowest rule: broken " + broken, reason(x, 1, 0, 30, 0, 0), due);
        }
        Real x = new Real();
        x.declare(0, 0, 6, 0);
        x.declare(0, 1, 6, 0);
        Check.due("lowest rule: of its kind", reason(x, 1, 0, 30, 0, 0), 11);
    }

    /** "What is there already stays, whatever is told later." */
    private static void whatIsThereStays() {
        Real x = new Real();
        x.declare(0, 2, 1, 2);
        x.request(0, 0, 0, 0, 3, 0, 9, 5, -1);
        x.request(1, 0, 1, 0, 3, 0, 9, 5, -1);
        x.confer();
        x.revise(0, 0, 0);
        x.declare(0, 2, 6, 0);
        x.curfew(0, 0, 72);
        x.quota(0, 0);
        x.close(0, 0, 4);
        Check.due("stays: load", x.load(0, 2, 0, 4, 3, 3), 2);
        Check.due("stays: worst", x.worst(0, 0, 0, 9) * 10 + x.worst(0, 1, 0, 9), 22);
        Check.due("stays: noise", x.noise(0), 100);
        Check.due("stays: none is gone", x.count(5), 0);
        Check.due("stays: both are given", x.count(1), 2);
        Check.due("stays: reasons of what is given", x.requestOf(0, 5) + x.requestOf(1, 5), 0);
        Check.due("stays: it flies", x.fly(1, 4, 3), 0);
    }

    /** "no window gets more by a giving than is declared". */
    private static void noMoreThanDeclared() {
        for (int most = 0; most <= 4; most++) {
            Real x = new Real();
            x.declare(0, 2, 4, most);
            x.declare(0, 0, 2, 1);
            for (int i = 0; i < 40; i++) {
                x.request(i % 10, 0, i % 2, 0, 28 + i * 7 % 9, i % 5, 10 + i % 9, 0, -1);
            }
            x.confer();
            for (int i = 0; i < 40; i++) {
                if (x.requestOf(i, 0) == SlotConference.OFFERED) {
                    x.accept(i);
                }
            }
            int there = x.count(4);
            for (int i = 0; i < there; i += 2) {
                x.giveBack(i, 8);
            }
            for (int week = 0; week < 20; week++) {
                Check.due("giving: at most " + most, x.worst(0, 0, 0, week) <= most, true);
                Check.due("giving: at most one arrival", x.worst(0, 1, 0, week) <= 1, true);
            }
        }
    }
}
