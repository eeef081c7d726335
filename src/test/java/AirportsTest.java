/** Promises 1 to 6, and 17 to 20: new objects, rules, curfews, quotas, groups, loads, worst windows, noise. */
public final class AirportsTest {
    private static final int MIN = Integer.MIN_VALUE;
    private static final int MAX = Integer.MAX_VALUE;

    public static void main(String[] args) {
        promise1();
        promise2();
        promise3();
        promise4();
        promise5();
        quotaInFits();
        promise6();
        promise17();
        promise18();
        promise19();
        promise20();
        windows();
        Check.finish();
    }

    static int ask(Real x, int carrier, int airport, int kind, int weekday, int time, int weeks) {
        return x.request(carrier, airport, kind, weekday, time, 0, weeks - 1, 0, -1);
    }

    private static void promise1() {
        Real x = new Real();
        Check.due("1: season", x.season(), 0);
        Check.due("1: rights", x.rights(), 0);
        for (int what = 0; what <= 5; what++) {
            Check.due("1: count " + what, x.count(what), 0);
        }
        for (int airport = 0; airport < 4; airport++) {
            int place = airport;
            Check.due("1: noise", x.noise(airport), 0);
            Check.refused(x, "1: worst without rules", Check.INDEX, () -> x.worst(place, 0, 0, 0));
            Check.due("1: quota", x.quota(airport, 9999), 9999);
            for (int carrier = 0; carrier < 10; carrier++) {
                Check.due("1: isNew", x.isNew(carrier, airport), true);
            }
        }
        int[] times = {0, 17, 18, 36, 65, 66, 71};
        for (int time : times) {
            int request = x.request(0, 0, 0, 0, time, 0, 19, 9, -1);
            Check.due("1: no curfew at " + time, x.requestOf(request, 5), 0);
        }
        Check.due("1: each alone", x.merge(3, 4), 2);
        Real y = new Real();
        Check.due("1: objects do not share", y.count(0), 0);
    }

    private static void promise2() {
        Real x = new Real();
        Check.due("2: first", x.declare(0, 0, 1, 0), 0);
        Check.due("2: other airport", x.declare(3, 2, 6, 20), 0);
        int[] airports = {-1, 4, MIN, MAX};
        for (int airport : airports) {
            Check.refused(x, "2: airport " + airport, Check.INDEX, () -> x.declare(airport, 9, 9, 99));
        }
        int[][] wrong = {{-1, 1, 1}, {3, 1, 1}, {0, 0, 1}, {0, 7, 1}, {0, 1, -1}, {0, 1, 21}, {MIN, MAX, MIN}};
        for (int[] w : wrong) {
            Check.refused(x, "2: range", Check.ARGUMENT, () -> x.declare(0, w[0], w[1], w[2]));
        }
        for (int number = 1; number < 6; number++) {
            Check.due("2: number", x.declare(0, 1, number, number), number);
        }
        Check.refused(x, "2: seventh", Check.STATE, () -> x.declare(0, 0, 1, 0));
        Check.refused(x, "2: seventh out of range", Check.ARGUMENT, () -> x.declare(0, 0, 1, 21));
        Check.due("2: airport 3 still", x.declare(3, 0, 1, 0), 1);
    }

    private static void promise3() {
        Real x = new Real();
        x.declare(1, 2, 2, 7);
        x.declare(1, 2, 2, 9);
        Check.due("3: was", x.revise(1, 0, 0), 7);
        Check.due("3: was then", x.revise(1, 0, 20), 0);
        Check.due("3: the other", x.revise(1, 1, 1), 9);
        Check.refused(x, "3: airport", Check.INDEX, () -> x.revise(4, 0, 99));
        Check.refused(x, "3: airport -1", Check.INDEX, () -> x.revise(-1, 0, 1));
        Check.refused(x, "3: rule", Check.INDEX, () -> x.revise(1, 2, 99));
        Check.refused(x, "3: rule -1", Check.INDEX, () -> x.revise(1, -1, 1));
        Check.refused(x, "3: rule of another airport", Check.INDEX, () -> x.revise(0, 0, 1));
        Check.refused(x, "3: most", Check.ARGUMENT, () -> x.revise(1, 0, 21));
        Check.refused(x, "3: most -1", Check.ARGUMENT, () -> x.revise(1, 0, -1));
        Check.due("3: stays by a throw", x.revise(1, 0, 5), 20);
        int request = ask(x, 0, 1, 0, 0, 30, 5);
        Check.due("3: fits", x.requestOf(request, 5), 0);
        x.revise(1, 1, 0);
        Check.due("3: breaks rule 1", x.requestOf(request, 5), 11);
        x.revise(1, 0, 0);
        Check.due("3: breaks rule 0 and 1", x.requestOf(request, 5), 10);
    }

    private static void promise4() {
        Real x = new Real();
        int request = ask(x, 0, 2, 1, 0, 30, 5);
        int[][] bars = {{30, 31, 1}, {29, 30, 0}, {31, 72, 0}, {0, 72, 1}, {30, 30, 0}, {0, 31, 1}, {72, 72, 0}, {0, 0, 0}};
        for (int[] b : bars) {
            x.curfew(2, b[0], b[1]);
            Check.due("4: from " + b[0] + " to " + b[1], x.requestOf(request, 5), b[2]);
        }
        x.curfew(1, 0, 72);
        Check.due("4: another airport's", x.requestOf(request, 5), 0);
        Check.refusedVoid(x, "4: airport", Check.INDEX, () -> x.curfew(4, 99, 0));
        Check.refusedVoid(x, "4: airport -1", Check.INDEX, () -> x.curfew(-1, 0, 0));
        int[][] wrong = {{-1, 5}, {73, 73}, {10, 9}, {10, 73}, {0, MAX}, {MIN, 0}};
        for (int[] w : wrong) {
            Check.refusedVoid(x, "4: range", Check.ARGUMENT, () -> x.curfew(2, w[0], w[1]));
        }
        x.declare(2, 2, 1, 0);
        x.curfew(2, 30, 31);
        Check.due("4: the curfew ahead of rules", x.requestOf(request, 5), 1);
    }

    private static void promise5() {
        Real x = new Real();
        Check.due("5: at first", x.quota(0, 100), 9999);
        Check.due("5: was", x.quota(0, 0), 100);
        Check.due("5: was 0", x.quota(0, 9999), 0);
        Check.due("5: another airport's", x.quota(1, 5), 9999);
        Check.refused(x, "5: airport", Check.INDEX, () -> x.quota(4, -1));
        Check.refused(x, "5: airport -1", Check.INDEX, () -> x.quota(-1, 1));
        Check.refused(x, "5: below", Check.ARGUMENT, () -> x.quota(0, -1));
        Check.refused(x, "5: above", Check.ARGUMENT, () -> x.quota(0, 10000));
        Check.due("5: stays by a throw", x.quota(0, 1), 9999);
    }

    private static void quotaInFits() {
        Real x = new Real();
        int night = x.request(0, 0, 0, 0, 17, 0, 9, 3, -1);
        int late = x.request(0, 0, 0, 0, 66, 0, 9, 3, -1);
        int day = x.request(0, 0, 0, 0, 18, 0, 9, 9, -1);
        int evening = x.request(0, 0, 0, 0, 65, 0, 9, 9, -1);
        int silent = x.request(0, 0, 0, 0, 0, 0, 9, 0, -1);
        x.quota(0, 29);
        Check.due("5: 30 above 29", x.requestOf(night, 5), 2);
        Check.due("5: 30 above 29, late", x.requestOf(late, 5), 2);
        Check.due("5: by day", x.requestOf(day, 5) + x.requestOf(evening, 5) + x.requestOf(silent, 5), 0);
        x.quota(0, 30);
        Check.due("5: 30 of 30", x.requestOf(night, 5), 0);
        x.declare(0, 2, 1, 0);
        x.quota(0, 29);
        Check.due("5: the quota ahead of rules", x.requestOf(night, 5), 2);
        x.curfew(0, 0, 20);
        Check.due("5: the curfew ahead of the quota", x.requestOf(night, 5), 1);
        x.curfew(0, 0, 0);
        x.revise(0, 0, 20);
        x.quota(0, 30);
        Check.due("5: all but one by night", x.confer(), 4);
        Check.due("5: the late one is offered a time by day", x.requestOf(late, 3), 65);
        int later = x.request(1, 0, 0, 0, 5, 0, 0, 0, -1);
        Check.due("5: noise 0 with the quota full", x.requestOf(later, 5), 0);
        x.quota(0, 29);
        Check.due("5: noise 0 with the quota broken", x.requestOf(later, 5), 2);
        Check.due("5: what is there stays", x.noise(0), 30);
    }

    private static void promise6() {
        Real x = new Real();
        Check.due("6: two", x.merge(0, 1), 2);
        Check.due("6: two others", x.merge(3, 2), 2);
        Check.due("6: four", x.merge(1, 3), 4);
        Check.refused(x, "6: in one group", Check.STATE, () -> x.merge(0, 2));
        Check.refused(x, "6: with itself", Check.STATE, () -> x.merge(9, 9));
        Check.refused(x, "6: carrier", Check.INDEX, () -> x.merge(10, 10));
        Check.refused(x, "6: other", Check.INDEX, () -> x.merge(0, -1));
        Check.refused(x, "6: carrier -1", Check.INDEX, () -> x.merge(-1, -1));
        for (int carrier = 4; carrier < 10; carrier++) {
            Check.due("6: one more", x.merge(carrier, 0), carrier + 1);
        }
        Real y = new Real();
        for (int i = 0; i < 3; i++) {
            ask(y, i, 0, 0, i, 30, 5);
        }
        y.confer();
        Check.due("6: alone it is new", y.isNew(0, 0), true);
        y.merge(0, 1);
        y.merge(2, 9);
        Check.due("6: two series", y.isNew(1, 0), true);
        y.merge(9, 1);
        Check.due("6: three series", y.isNew(9, 0), false);
        Check.due("6: groups stay behind the season", y.end() + (y.season() == 1 ? 0 : 1), 0);
        Check.refused(y, "6: still one group", Check.STATE, () -> y.merge(0, 9));
    }

    private static void promise17() {
        Real x = new Real();
        for (int season = 0; season < 20; season++) {
            Check.due("17: season", x.season(), season);
            x.end();
        }
        Check.due("17: the last", x.season(), 20);
        Check.refused(x, "16: the season 20", Check.STATE, x::end);
    }

    private static Real loaded() {
        Real x = new Real();
        ask(x, 0, 1, 0, 3, 20, 10);
        ask(x, 1, 1, 1, 3, 22, 8);
        ask(x, 2, 1, 0, 3, 25, 12);
        ask(x, 3, 1, 0, 4, 25, 12);
        ask(x, 4, 2, 0, 3, 25, 12);
        ask(x, 5, 1, 1, 3, 71, 20);
        ask(x, 6, 1, 1, 3, 0, 20);
        x.confer();
        return x;
    }

    private static void promise18() {
        Real x = loaded();
        Check.due("18: arrivals", x.load(1, 0, 3, 0, 0, 71), 2);
        Check.due("18: departures", x.load(1, 1, 3, 0, 0, 71), 3);
        Check.due("18: either", x.load(1, 2, 3, 0, 0, 71), 5);
        Check.due("18: both ends count", x.load(1, 2, 3, 0, 20, 25), 3);
        Check.due("18: behind the first", x.load(1, 2, 3, 0, 21, 25), 2);
        Check.due("18: ahead of the last", x.load(1, 2, 3, 0, 20, 24), 2);
        Check.due("18: one time", x.load(1, 2, 3, 0, 22, 22), 1);
        Check.due("18: its last week", x.load(1, 2, 3, 7, 22, 22), 1);
        Check.due("18: a week behind", x.load(1, 2, 3, 8, 22, 22), 0);
        Check.due("18: another weekday", x.load(1, 2, 4, 0, 0, 71), 1);
        Check.due("18: another airport", x.load(2, 2, 3, 0, 0, 71), 1);
        x.close(1, 3, 0);
        Check.due("18: a closed day has its slots", x.load(1, 2, 3, 0, 0, 71), 5);
        int last = seriesAtTime(x, 71);
        x.giveBack(last, 0);
        Check.due("18: gone", x.load(1, 2, 3, 0, 71, 71), 0);
        Check.refused(x, "18: airport", Check.INDEX, () -> x.load(4, 9, 9, 99, 99, 0));
        Check.refused(x, "18: airport -1", Check.INDEX, () -> x.load(-1, 0, 0, 0, 0, 0));
        int[][] wrong = {
            {-1, 0, 0, 0, 0}, {3, 0, 0, 0, 0}, {0, -1, 0, 0, 0}, {0, 7, 0, 0, 0}, {0, 0, -1, 0, 0}, {0, 0, 20, 0, 0},
            {0, 0, 0, -1, 0}, {0, 0, 0, 72, 72}, {0, 0, 0, 5, 4}, {0, 0, 0, 0, 72}, {0, 0, 0, MIN, MAX}
        };
        for (int[] w : wrong) {
            Check.refused(x, "18: range", Check.ARGUMENT, () -> x.load(1, w[0], w[1], w[2], w[3], w[4]));
        }
    }

    static int seriesAtTime(Real x, int time) {
        for (int i = 0; i < x.count(4); i++) {
            if (x.seriesOf(i, 5) == time) {
                return i;
            }
        }
        return -1;
    }

    private static void promise19() {
        Real x = loaded();
        x.declare(1, 2, 6, 20);
        x.declare(1, 0, 6, 20);
        x.declare(1, 0, 5, 20);
        x.declare(1, 1, 1, 20);
        x.declare(2, 1, 3, 0);
        Check.due("19: six times", x.worst(1, 0, 3, 0), 3);
        Check.due("19: arrivals", x.worst(1, 1, 3, 0), 2);
        Check.due("19: five times", x.worst(1, 2, 3, 0), 1);
        Check.due("19: one time", x.worst(1, 3, 3, 19), 1);
        Check.due("19: none of the kind", x.worst(2, 0, 3, 0), 0);
        Check.due("19: a later week", x.worst(1, 0, 3, 9), 2);
        Check.due("19: the ends of the day", x.worst(1, 0, 3, 19), 1);
        Check.due("19: another weekday", x.worst(1, 0, 5, 0), 0);
        x.giveBack(seriesAtTime(x, 0), 0);
        Check.due("19: the last window", x.worst(1, 3, 3, 19) + x.worst(1, 0, 3, 19), 2);
        x.giveBack(seriesAtTime(x, 71), 0);
        Check.due("19: none", x.worst(1, 3, 3, 19), 0);
        Check.refused(x, "19: airport", Check.INDEX, () -> x.worst(4, 0, 9, 99));
        Check.refused(x, "19: rule", Check.INDEX, () -> x.worst(1, 4, 9, 99));
        Check.refused(x, "19: rule -1", Check.INDEX, () -> x.worst(1, -1, 0, 0));
        Check.refused(x, "19: weekday", Check.ARGUMENT, () -> x.worst(1, 0, 7, 0));
        Check.refused(x, "19: weekday -1", Check.ARGUMENT, () -> x.worst(1, 0, -1, 0));
        Check.refused(x, "19: week", Check.ARGUMENT, () -> x.worst(1, 0, 0, 20));
        Check.refused(x, "19: week -1", Check.ARGUMENT, () -> x.worst(1, 0, 0, -1));
    }

    private static void promise20() {
        Real x = new Real();
        x.request(0, 0, 0, 0, 17, 2, 6, 9, -1);
        x.request(1, 0, 1, 1, 66, 0, 19, 1, -1);
        x.request(2, 0, 0, 2, 18, 0, 19, 9, -1);
        x.request(3, 0, 0, 3, 65, 0, 19, 9, -1);
        x.request(4, 0, 0, 4, 0, 0, 0, 4, -1);
        x.request(5, 1, 0, 4, 71, 0, 1, 4, -1);
        Check.due("20: asked makes no noise", x.noise(0), 0);
        x.confer();
        Check.due("20: by night", x.noise(0), 45 + 20 + 4);
        Check.due("20: another airport", x.noise(1), 8);
        x.giveBack(seriesAtTime(x, 66), 15);
        Check.due("20: fewer weeks", x.noise(0), 45 + 15 + 4);
        x.giveBack(seriesAtTime(x, 17), 0);
        Check.due("20: gone", x.noise(0), 15 + 4);
        Check.refused(x, "20: airport", Check.INDEX, () -> x.noise(4));
        Check.refused(x, "20: airport -1", Check.INDEX, () -> x.noise(-1));
    }

    /** Terms: windows roll and overlap, and only those with the new time count. */
    private static void windows() {
        Real x = new Real();
        x.declare(0, 2, 3, 2);
        ask(x, 0, 0, 0, 0, 30, 10);
        ask(x, 1, 0, 1, 0, 32, 10);
        x.confer();
        int[][] reasons = {{27, 0}, {28, 0}, {29, 0}, {30, 10}, {31, 10}, {32, 10}, {33, 0}, {34, 0}};
        for (int[] r : reasons) {
            int request = x.request(2, 0, 0, 0, r[0], 9, 19, 0, -1);
            Check.due("window at " + r[0], x.requestOf(request, 5), r[1]);
        }
        int beyond = x.request(2, 0, 0, 0, 31, 10, 19, 0, -1);
        Check.due("weeks that do not meet", x.requestOf(beyond, 5), 0);
        int tomorrow = x.request(2, 0, 0, 1, 31, 0, 19, 0, -1);
        Check.due("another weekday", x.requestOf(tomorrow, 5), 0);
        x.declare(0, 0, 1, 1);
        x.revise(0, 0, 20);
        int arrival = x.request(2, 0, 0, 0, 30, 0, 0, 0, -1);
        int departure = x.request(2, 0, 1, 0, 30, 0, 0, 0, -1);
        Check.due("a rule for arrivals", x.requestOf(arrival, 5), 11);
        Check.due("a departure under it", x.requestOf(departure, 5), 0);
        x.revise(0, 0, 0);
        Check.due("no slots at all, the lowest rule", x.requestOf(arrival, 5), 10);
        Real y = new Real();
        ask(y, 0, 0, 0, 0, 40, 5);
        ask(y, 1, 0, 0, 0, 40, 5);
        y.confer();
        y.declare(0, 0, 6, 2);
        int near = ask(y, 2, 0, 0, 0, 45, 5);
        int far = ask(y, 2, 0, 0, 0, 46, 5);
        int low = ask(y, 2, 0, 0, 0, 35, 5);
        int lower = ask(y, 2, 0, 0, 0, 34, 5);
        Check.due("what is there stays and fills", y.requestOf(near, 5) + y.requestOf(low, 5), 20);
        Check.due("a window away", y.requestOf(far, 5) + y.requestOf(lower, 5), 0);
        y.revise(0, 0, 1);
        Check.due("a broken window elsewhere bars nobody", y.requestOf(far, 5) + y.requestOf(lower, 5), 0);
        ends();
    }

    private static void ends() {
        Real x = new Real();
        x.declare(0, 2, 6, 1);
        ask(x, 0, 0, 0, 0, 0, 5);
        ask(x, 1, 0, 0, 0, 71, 5);
        x.confer();
        int[][] reasons = {{0, 10}, {5, 10}, {6, 0}, {65, 0}, {66, 10}, {71, 10}};
        for (int[] r : reasons) {
            int request = ask(x, 2, 0, 1, 0, r[0], 5);
            Check.due("the end of the day at " + r[0], x.requestOf(request, 5), r[1]);
        }
    }
}
