import java.util.Arrays;

/** 'Terms', 'Requests, rights': a test for each sentence that names a bound. */
public final class TermsRequestsTest {
    private static final int HISTORIC = SlotConference.HISTORIC;
    private static final int CHANGED = SlotConference.CHANGED;
    private static final int NEW = SlotConference.NEW;
    private static final int OTHER = SlotConference.OTHER;
    private static final int GIVEN = SlotConference.GIVEN;
    private static final int OFFERED = SlotConference.OFFERED;
    private static final int WAITING = SlotConference.WAITING;

    public static void main(String[] args) {
        sixtyInASeason();
        numbersOfRights();
        sixtyRights();
        historicOrChanged();
        oneClaimEach();
        fewerThanThree();
        threeOfWhat();
        groupsMerge();
        allSorts();
        newAndOtherInTurn();
        moreWeeksFirst();
        newAsItBegins();
        linkedFitBoth();
        linkedAreLookedAtOnce();
        offersInOrder();
        offersAtTheEndsOfADay();
        seriesNumbers();
        orderOfThoseThatWait();
        laterConferences();
        acceptedOrNot();
        noneIsAsked();
        Check.finish();
    }

    private static int ask(Conference x, int carrier, int airport, int weekday, int time, int weeks) {
        return Scenes.ask(x, carrier, airport, weekday, time, weeks);
    }

    /** Series at airport 0 on the weekdays 0 and up, at 60. */
    private static void hold(Conference x, int carrier, int series) {
        for (int i = 0; i < series; i++) {
            ask(x, carrier, 0, i, 60, 5);
        }
        x.confer();
    }

    /** "Requests are numbered from 0, at most 60 in a season". */
    private static void sixtyInASeason() {
        Real x = new Real();
        for (int i = 0; i < 60; i++) {
            Check.due("60: number", ask(x, i % 10, i % 4, i % 7, i, 1), i);
            if (i % 20 == 19) {
                x.confer();
                Check.due("60: what is given back makes no room", x.giveBack(i, 0), 0);
            }
        }
        Check.refused(x, "60: the 61st", Check.STATE, () -> ask(x, 0, 0, 0, 0, 1));
        Check.due("60: requests", x.count(0), 60);
        Check.due("60: the last one's series", x.requestOf(59, 2), 59);
        x.end();
        Check.due("60: from 0 with a new season", ask(x, 0, 0, 0, 0, 1), 0);
        for (int i = 1; i < 60; i++) {
            ask(x, 0, 0, 0, 0, 1);
        }
        Check.refused(x, "60: the 61st of a later season", Check.STATE, () -> ask(x, 0, 0, 0, 0, 1));
    }

    /** "rights are numbered from 0, anew with each season": those of the season ahead are no more. */
    private static void numbersOfRights() {
        Real x = Scenes.withRights();
        Check.due("rights: two", x.rights(), 2);
        x.request(5, 3, 1, 6, 44, 2, 6, 3, -1);
        x.confer();
        for (int week = 2; week < 6; week++) {
            x.fly(0, week, 44);
        }
        Check.due("rights: one in the next season", x.end(), 1);
        int[] want = {5, 3, 1, 6, 44, 2, 6, 3, -1};
        for (int what = 0; what <= 8; what++) {
            Check.due("rights: 0 anew, " + what, x.rightOf(0, what), want[what]);
        }
        Check.refused(x, "rights: 1 is none now", Check.INDEX, () -> x.rightOf(1, 0));
        Check.refused(x, "rights: 1 is not claimed", Check.INDEX, () -> x.request(2, 1, 1, 3, 30, 4, 12, 5, 1));
        Check.refused(x, "rights: 0 is another carrier's", Check.STATE, () -> x.request(2, 1, 1, 3, 30, 4, 12, 5, 0));
        Check.due("rights: none behind a season without series", x.end(), 0);
        Check.refused(x, "rights: not even 0", Check.INDEX, () -> x.rightOf(0, 0));
    }

    /** All that there may be: 60 series, each closed in all its weeks, are 60 rights, and all may be claimed. */
    private static void sixtyRights() {
        Real x = Scenes.full();
        for (int week = 0; week < 4; week++) {
            x.close(0, 0, week);
        }
        Check.due("60 rights: as many", x.end(), 60);
        for (int i = 0; i < 60; i++) {
            Check.due("60 rights: in the order of the series", x.rightOf(i, 0), i % 10);
            Check.due("60 rights: claimed", x.request(i % 10, 0, 0, 0, 30, 0, 4, 0, i), i);
        }
        Check.due("60 rights: the last claim", x.rightOf(59, 8), 59);
        Check.refused(x, "60 rights: no 61st", Check.INDEX, () -> x.rightOf(60, 0));
        Check.due("60 rights: all are given", x.confer(), 60);
        Check.due("60 rights: the last one historic", x.requestOf(59, 1), HISTORIC);
    }

    /** "HISTORIC if time, first and last week, and noise are those of the right, otherwise CHANGED". */
    private static void historicOrChanged() {
        int[] own = {30, 4, 12, 5};
        for (int which = -1; which < own.length; which++) {
            for (int step = -1; step <= 1; step += 2) {
                int[] a = own.clone();
                if (which >= 0) {
                    a[which] += step;
                }
                Real x = Scenes.withRights();
                x.request(2, 1, 1, 3, a[0], a[1], a[2], a[3], 1);
                int due = which < 0 ? HISTORIC : CHANGED;
                Check.due("historic: changed " + which + " by " + step, x.requestOf(0, 1), due);
                Check.due("historic: of the right", x.rightOf(1, 8) * 10 + x.rightOf(0, 8), -1);
                x.confer();
                Check.due("historic: as it was sorted, " + which, x.requestOf(0, 1), due);
            }
        }
        Real x = Scenes.withRights();
        x.request(2, 1, 1, 3, 30, 4, 12, 5, -1);
        Check.due("historic: alike, but without a claim", x.requestOf(0, 1), NEW);
    }

    /** "which no other request has claimed": also behind a conference, whatever came of it. */
    private static void oneClaimEach() {
        Real x = Scenes.withRights();
        x.curfew(1, 0, 72);
        x.request(2, 1, 1, 3, 30, 4, 12, 5, 0);
        Check.refused(x, "claim: again", Check.STATE, () -> x.request(2, 1, 1, 3, 30, 4, 12, 5, 0));
        x.confer();
        Check.due("claim: it waits", x.requestOf(0, 0), WAITING);
        Check.refused(x, "claim: by one that waits", Check.STATE, () -> x.request(2, 1, 1, 3, 30, 4, 12, 5, 0));
        x.curfew(1, 0, 0);
        x.request(2, 1, 1, 3, 30, 4, 12, 5, 1);
        x.confer();
        x.giveBack(0, 0);
        Check.refused(x, "claim: by one whose series is gone", Check.STATE, () -> x.request(2, 1, 1, 3, 30, 4, 12, 5, 1));
        Check.due("claim: both are claimed", x.rightOf(0, 8) * 10 + x.rightOf(1, 8), 1);
    }

    /** "fewer than 3 rights there, claimed or not, and series there that are not gone, as their holders, together". */
    private static void fewerThanThree() {
        for (int claimed = 0; claimed <= 2; claimed++) {
            for (int more = 0; more <= 2; more++) {
                Real x = Scenes.withRights();
                for (int i = 0; i < claimed; i++) {
                    x.request(2, 1, 1, 3, 30, 4, 12, 5, i);
                }
                for (int i = 0; i < more; i++) {
                    ask(x, 2, 1, i, 60, 5);
                }
                String what = "new: 2 rights, " + claimed + " of them claimed, and " + more + " others";
                Check.due(what + ", asked", x.isNew(2, 1), true);
                if (claimed + more > 0) {
                    x.confer();
                }
                Check.due(what + ", given", x.isNew(2, 1), claimed + more == 0);
                int request = ask(x, 2, 1, 0, 20, 5);
                Check.due(what + ", its sort", x.requestOf(request, 1), claimed + more == 0 ? NEW : OTHER);
            }
        }
        for (int series = 0; series <= 4; series++) {
            Real x = new Real();
            ask(x, 1, 0, 0, 10, 5);
            hold(x, 0, series);
            Check.due("new: series " + series, x.isNew(0, 0), series < 3);
            Check.due("new: another airport", x.isNew(0, 1), true);
        }
    }

    private static void threeOfWhat() {
        Real x = new Real();
        hold(x, 0, 3);
        x.giveBack(0, 4);
        Check.due("three: with fewer weeks it counts", x.isNew(0, 0), false);
        x.lease(0, 5);
        Check.due("three: leased it is its holder's", x.isNew(0, 0), false);
        Check.due("three: not its user's", x.isNew(5, 0), true);
        x.giveBack(0, 0);
        Check.due("three: gone it does not", x.isNew(0, 0), true);
        Real y = new Real();
        hold(y, 0, 3);
        for (int week = 0; week < 3; week++) {
            Check.due("three: off " + week, y.isNew(0, 0), false);
            y.fly(1, week, 10);
        }
        Check.due("three: gone by flights", y.isNew(0, 0), true);
        Real z = new Real();
        hold(z, 0, 3);
        int of = ask(z, 1, 0, 5, 20, 5);
        z.confer();
        z.swap(z.requestOf(of, 2), 0);
        Check.due("three: swapped one by one", z.isNew(0, 0), false);
        Check.due("three: the other one has one", z.isNew(1, 0), true);
    }

    /** "Each carrier is a group by itself at first; groups merge." */
    private static void groupsMerge() {
        Real x = new Real();
        for (int i = 0; i < 3; i++) {
            ask(x, i, 0, i, 60, 5);
        }
        x.confer();
        int request = ask(x, 9, 0, 0, 20, 5);
        Check.due("groups: two", x.merge(9, 0), 2);
        Check.due("groups: two others", x.merge(2, 1), 2);
        Check.due("groups: one series", x.requestOf(request, 1), NEW);
        Check.due("groups: two series", x.isNew(2, 0), true);
        Check.due("groups: four", x.merge(1, 9), 4);
        for (int i = 0; i < 10; i++) {
            int carrier = i;
            Check.refused(x, "groups: with itself", Check.STATE, () -> x.merge(carrier, carrier));
        }
        Check.due("groups: three series", x.requestOf(request, 1), OTHER);
        int[] members = {0, 1, 2, 9};
        for (int member : members) {
            Check.due("groups: of " + member, x.isNew(member, 0), false);
        }
        Check.due("groups: of another one", x.isNew(3, 0), true);
        for (int carrier = 3; carrier < 9; carrier++) {
            Check.due("groups: with " + carrier, x.merge(carrier, 2), carrier + 2);
        }
        for (int i = 0; i < 10; i++) {
            int carrier = i;
            Check.refused(x, "groups: all are in one", Check.STATE, () -> x.merge(carrier, 9 - carrier));
        }
        x.end();
        Check.refused(x, "groups: in a later season", Check.STATE, () -> x.merge(0, 3));
    }

    /** "the HISTORIC ones, then the CHANGED ones, then the NEW and the OTHER ones". */
    private static void allSorts() {
        Real x = Scenes.withRights();
        for (int i = 0; i < 3; i++) {
            ask(x, 7, 1, i, 60, 5);
        }
        x.confer();
        int other = ask(x, 7, 1, 0, 20, 20);
        int fresh = ask(x, 8, 1, 0, 20, 19);
        int changed = x.request(2, 1, 1, 3, 30, 4, 11, 5, 1);
        int historic = x.request(2, 1, 1, 3, 30, 4, 12, 5, 0);
        int[] sorts = {x.requestOf(other, 1), x.requestOf(fresh, 1), x.requestOf(changed, 1), x.requestOf(historic, 1)};
        Check.due("sorts", Arrays.toString(sorts), "[3, 2, 1, 0]");
        Check.due("sorts: all are given", x.confer(), 4);
        int[] order = {historic, changed, fresh, other};
        for (int i = 0; i < order.length; i++) {
            Check.due("sorts: place " + i, x.seriesOf(3 + i, 8), order[i]);
        }
    }

    /** "one of the NEW and one of the OTHER in turn, a NEW one first, as long as there are both, the rest then". */
    private static void newAndOtherInTurn() {
        for (int news = 0; news <= 4; news++) {
            for (int others = 0; others <= 4; others++) {
                if (news + others > 0) {
                    inTurn(news, others);
                }
            }
        }
    }

    private static void inTurn(int news, int others) {
        Real x = new Real();
        hold(x, 9, 3);
        for (int i = 0; i < others; i++) {
            ask(x, 9, 0, i, 20, 5);
        }
        for (int i = 0; i < news; i++) {
            ask(x, 0, 0, i, 40, 5);
        }
        Check.due("in turn: all are given", x.confer(), news + others);
        int fresh = 3 + others;
        int other = 3;
        for (int place = 3; place < 3 + news + others; place++) {
            boolean turnOfNew = other == 3 + others || fresh < 3 + others + news && fresh - others <= other;
            int due = turnOfNew ? fresh++ : other++;
            Check.due("in turn: " + news + " new, " + others + " others, place " + place, x.seriesOf(place, 8), due);
        }
    }

    /** "Of one sort those for more weeks go first, then those with lower numbers." */
    private static void moreWeeksFirst() {
        int[][] weeks = {{5, 5, 5}, {4, 5, 6}, {6, 5, 4}, {1, 20, 19}, {20, 20, 1}, {1, 2, 1}, {19, 20, 20}};
        int[][] orders = {{0, 1, 2}, {2, 1, 0}, {0, 1, 2}, {1, 2, 0}, {0, 1, 2}, {1, 0, 2}, {1, 2, 0}};
        for (int i = 0; i < weeks.length; i++) {
            Real x = new Real();
            for (int carrier = 0; carrier < 3; carrier++) {
                // The later ones end earlier, so that only the number of weeks can be what is looked at.
                int last = 19 - (weeks[i][carrier] < 18 ? carrier : 0);
                x.request(carrier, 0, 0, 0, 30, last - weeks[i][carrier] + 1, last, 0, -1);
            }
            x.confer();
            for (int place = 0; place < 3; place++) {
                Check.due("more weeks: " + i + ", place " + place, x.seriesOf(place, 8), orders[i][place]);
            }
        }
    }

    /** "who is new is found for all as it begins". */
    private static void newAsItBegins() {
        Real x = new Real();
        hold(x, 0, 2);
        int[] requests = {ask(x, 0, 0, 0, 20, 9), ask(x, 0, 0, 1, 20, 8), ask(x, 0, 0, 2, 20, 7)};
        hold(x, 1, 0);
        for (int i = 0; i < requests.length; i++) {
            Check.due("begins: new, though it holds more then", x.requestOf(requests[i], 1), NEW);
        }
        int later = ask(x, 0, 0, 3, 20, 9);
        Check.due("begins: other in a later one", x.requestOf(later, 1), OTHER);
        x.confer();
        Check.due("begins: as it was sorted, behind a later one", x.requestOf(requests[0], 1), NEW);
        x.giveBack(0, 0);
        x.giveBack(1, 0);
        x.giveBack(2, 0);
        x.giveBack(3, 0);
        Check.due("begins: as it was sorted, though it is new now", x.requestOf(later, 1), OTHER);
        Check.due("begins: new now", x.isNew(0, 0), true);
        hold(x, 1, 1);
        Check.due("begins: as it was sorted, behind one more", x.requestOf(later, 1), OTHER);
    }

    /** "if this one fits, and that one does too, with this one given, both are GIVEN, otherwise both are WAITING". */
    private static void linkedFitBoth() {
        // Three causes: the first one is barred, the other one breaks a rule, both are too near to one another.
        for (int causes = 0; causes < 8; causes++) {
            boolean near = (causes & 4) != 0;
            int placeOfOne = near ? 2 : 0;
            int placeOfTwo = near ? 2 : 1;
            Real x = new Real();
            x.declare(2, 2, 3, 1);
            int one = ask(x, 0, placeOfOne, 0, 30, 9);
            int two = ask(x, 0, placeOfTwo, 0, 32, 8);
            x.link(one, two);
            if ((causes & 1) != 0) {
                x.curfew(placeOfOne, 30, 31);
            }
            if ((causes & 2) != 0) {
                x.declare(placeOfTwo, 0, 1, 0);
            }
            Check.due("linked: causes " + causes, x.confer(), causes == 0 ? 2 : 0);
            int due = causes == 0 ? GIVEN : WAITING;
            Check.due("linked: state of one, " + causes, x.requestOf(one, 0), due);
            Check.due("linked: state of the other one, " + causes, x.requestOf(two, 0), due);
            Check.due("linked: no offer, " + causes, x.requestOf(one, 3) + x.requestOf(two, 3), -2);
            Check.due("linked: series, " + causes, x.count(4), causes == 0 ? 2 : 0);
            Check.due("linked: loads, " + causes, x.load(0, 2, 0, 0, 0, 71) + x.load(2, 2, 0, 0, 0, 71), causes == 0 ? 1 : 0);
            Check.due("linked: still, " + causes, x.requestOf(one, 4) * 10 + x.requestOf(two, 4), two * 10 + one);
        }
    }

    /** "each that is ASKED still is looked at": the other one of two is decided with the first one, and not again. */
    private static void linkedAreLookedAtOnce() {
        Real x = new Real();
        x.declare(0, 2, 1, 1);
        int behind = ask(x, 0, 0, 0, 30, 1);
        int alone = ask(x, 1, 0, 0, 30, 5);
        int first = ask(x, 0, 1, 0, 30, 9);
        x.link(behind, first);
        Check.due("once: two are given", x.confer(), 2);
        Check.due("once: with the first one of them", x.requestOf(first, 2) * 10 + x.requestOf(behind, 2), 1);
        Check.due("once: ahead of one for more weeks", x.requestOf(alone, 0), OFFERED);
        int late = ask(x, 2, 0, 0, 30, 1);
        int early = ask(x, 2, 2, 0, 30, 9);
        int free = ask(x, 3, 0, 0, 29, 2);
        x.link(early, late);
        Check.due("once: one is given behind a pair that is not", x.confer(), 1);
        Check.due("once: in the queue once", x.ahead(late), 1);
        Check.due("once: at its own airport", x.ahead(early), 0);
        Check.due("once: the one that is free", x.requestOf(free, 0), GIVEN);
    }

    /** "the first time that fits of those 1 less, 1 more, 2 less, 2 more, 3 less and 3 more than its own". */
    private static void offersInOrder() {
        int[] steps = {-1, 1, -2, 2, -3, 3};
        for (int open = 0; open < 64; open++) {
            Real x = new Real();
            x.declare(0, 2, 1, 1);
            int due = -1;
            ask(x, 0, 0, 0, 30, 20);
            for (int i = steps.length - 1; i >= 0; i--) {
                if ((open >> i & 1) != 0) {
                    due = 30 + steps[i];
                } else {
                    ask(x, 0, 0, 0, 30 + steps[i], 20);
                }
            }
            int request = ask(x, 1, 0, 0, 30, 1);
            x.confer();
            Check.due("offers: open " + open, x.requestOf(request, 3), due);
            Check.due("offers: state, open " + open, x.requestOf(request, 0), due == -1 ? WAITING : OFFERED);
            Check.due("offers: waits, open " + open, x.ahead(request), 0);
        }
        Real y = new Real();
        y.curfew(0, 30, 31);
        for (int i = 0; i < 3; i++) {
            ask(y, i, 0, 0, 30, 5);
        }
        y.declare(0, 2, 1, 1);
        y.confer();
        for (int i = 0; i < 3; i++) {
            Check.due("offers: a time is offered, not held", y.requestOf(i, 3), 29);
        }
    }

    private static void offersAtTheEndsOfADay() {
        for (int time = 0; time < 72; time += time == 4 ? 63 : 1) {
            for (int barred = 0; barred <= 4; barred++) {
                Real x = new Real();
                x.curfew(0, Math.max(0, time - barred), Math.min(72, time + barred + 1));
                ask(x, 0, 0, 0, time, 5);
                x.confer();
                int less = time - barred - 1;
                int more = time + barred + 1;
                int due = barred >= 3 ? -1 : less >= 0 ? less : more <= 71 ? more : -1;
                Check.due("ends: at " + time + " with " + barred, x.requestOf(0, 3), due);
            }
        }
        for (int time = 68; time <= 71; time++) {
            Real x = new Real();
            x.curfew(0, 60, 71);
            ask(x, 0, 0, 0, time, 5);
            x.confer();
            Check.due("ends: 71 from " + time, x.requestOf(0, time == 71 ? 2 : 3), time == 71 ? 0 : 71);
            Real y = new Real();
            y.curfew(0, 1, 11);
            ask(y, 0, 0, 0, 71 - time, 5);
            y.confer();
            Check.due("ends: 0 from " + (71 - time), y.requestOf(0, time == 71 ? 2 : 3), 0);
        }
        Real x = new Real();
        x.quota(0, 0);
        x.request(0, 0, 0, 0, 17, 0, 0, 1, -1);
        x.request(0, 0, 0, 0, 66, 0, 0, 1, -1);
        x.request(0, 0, 0, 0, 15, 0, 0, 1, -1);
        x.request(0, 0, 0, 0, 14, 0, 0, 1, -1);
        x.confer();
        Check.due("ends: of the night", x.requestOf(0, 3) * 100 + x.requestOf(1, 3), 1865);
        Check.due("ends: three more is by day", x.requestOf(2, 3), 18);
        Check.due("ends: four more is too far", x.requestOf(3, 3), -1);
    }

    /** "A request that is GIVEN becomes a series, numbered from 0, anew with each season." */
    private static void seriesNumbers() {
        Real x = new Real();
        hold(x, 0, 2);
        hold(x, 1, 1);
        Check.due("series: go on in a later conference", x.requestOf(2, 2), 2);
        x.giveBack(2, 0);
        hold(x, 2, 1);
        Check.due("series: one that is gone keeps its number", x.requestOf(3, 2), 3);
        Check.due("series: all", x.count(4), 4);
        x.end();
        Check.refused(x, "series: none in a new season", Check.INDEX, () -> x.seriesOf(0, 0));
        hold(x, 5, 1);
        Check.due("series: from 0", x.requestOf(0, 2), 0);
        Check.due("series: of the new season", x.seriesOf(0, 0), 5);
    }

    /** "wait in the order in which they were looked at, the other one of two that are linked right behind the first one". */
    private static void orderOfThoseThatWait() {
        Real x = new Real();
        x.curfew(0, 20, 40);
        int[] weeks = {3, 9, 1, 7, 8, 2};
        for (int i = 0; i < weeks.length; i++) {
            ask(x, i, 0, 0, i % 2 == 0 ? 30 : 21, weeks[i]);
        }
        x.link(1, 2);
        x.link(5, 4);
        Check.due("queue: none is given", x.confer(), 0);
        int[] order = {1, 2, 4, 5, 3, 0};
        for (int place = 0; place < order.length; place++) {
            Check.due("queue: place " + place, x.ahead(order[place]), place);
        }
        Check.due("queue: an offer", x.requestOf(3, 3), 19);
        Check.due("queue: none", x.requestOf(0, 3), -1);
        x.accept(3);
        Check.due("queue: one ahead is given", x.ahead(0), 4);
        Check.due("queue: it waits no more", x.ahead(3), -1);
        pairInTheMidst();
        Real y = new Real();
        y.curfew(0, 0, 72);
        y.curfew(1, 0, 72);
        int a = ask(y, 0, 0, 0, 30, 9);
        int b = ask(y, 0, 1, 0, 30, 1);
        int c = ask(y, 1, 1, 0, 30, 5);
        y.link(a, b);
        y.confer();
        Check.due("queue: of two airports", y.ahead(a) * 100 + y.ahead(b) * 10 + y.ahead(c), 1);
    }

    /** Both of a pair wait once, where the first of them was looked at, and nobody behind waits for them twice. */
    private static void pairInTheMidst() {
        int[] pair = {2, 3};
        for (int which = 0; which < 2; which++) {
            Real x = new Real();
            x.curfew(0, 0, 72);
            int[] weeks = {9, 1, 5 + 2 * which, 7 - 2 * which, 6, 3};
            for (int i = 0; i < weeks.length; i++) {
                ask(x, i, 0, 0, 30, weeks[i]);
            }
            x.link(pair[which], pair[1 - which]);
            x.confer();
            // By their weeks: 9, the pair by its 7, 6, then the pair's 5 that is not looked at again, 3 and 1.
            int[] due = {0, 5, 2 - which, 1 + which, 3, 4};
            for (int i = 0; i < due.length; i++) {
                Check.due("pair in the midst: " + which + ", request " + i, x.ahead(i), due[i]);
            }
        }
    }

    /** "those of a later conference behind them", whatever their sort. */
    private static void laterConferences() {
        Real x = Scenes.withRights();
        x.curfew(1, 0, 72);
        ask(x, 5, 1, 0, 30, 1);
        x.confer();
        x.request(2, 1, 1, 3, 30, 4, 12, 5, 0);
        ask(x, 6, 1, 0, 30, 20);
        x.confer();
        Check.due("later: the first one", x.ahead(0), 0);
        Check.due("later: a historic one", x.ahead(1), 1);
        Check.due("later: one for all weeks", x.ahead(2), 2);
        x.curfew(1, 0, 0);
        ask(x, 7, 1, 5, 30, 1);
        Check.due("later: those that wait are not looked at again", x.confer(), 1);
        Check.due("later: though they fit", x.requestOf(0, 5), 0);
        Check.due("later: served in their order", x.giveBack(0, 0), 3);
        Check.due("later: the first one first", x.requestOf(0, 2), 1);
        Check.due("later: the last one last", x.requestOf(2, 2), 3);
    }

    /** "if it fits still, it is GIVEN at that time, otherwise it is WAITING, at the place that it had". */
    private static void acceptedOrNot() {
        Real x = new Real();
        x.declare(0, 2, 1, 1);
        for (int i = 0; i < 5; i++) {
            ask(x, i, 0, 0, 30, 5);
        }
        x.confer();
        x.giveBack(0, 4);
        Check.due("accept: at the time that is offered", x.accept(2), true);
        Check.due("accept: its time", x.seriesOf(1, 5), 29);
        Check.due("accept: its own time is told no more", x.requestOf(2, 5), 0);
        Check.due("accept: the place is taken", x.accept(3), false);
        Check.due("accept: at the place that it had", x.ahead(1) * 100 + x.ahead(3) * 10 + x.ahead(4), 12);
        Check.due("accept: waiting", x.requestOf(3, 0), WAITING);
        Check.refusedBoolean(x, "accept: not again", Check.STATE, () -> x.accept(3));
        int later = ask(x, 5, 0, 0, 30, 1);
        x.curfew(0, 30, 31);
        x.confer();
        Check.due("accept: it waits once", x.ahead(later), 3);
        x.curfew(0, 0, 0);
        Check.refusedBoolean(x, "accept: given already", Check.STATE, () -> x.accept(2));
        x.giveBack(1, 0);
        Check.due("accept: one behind it may be given first", x.accept(4), true);
        Check.due("accept: by each of the reasons", x.accept(1), false);
        Real y = Scenes.offered();
        y.curfew(0, 29, 31);
        Check.due("accept: barred", y.accept(0), false);
        y.curfew(0, 0, 0);
        Check.due("accept: its own time fits, the offer is what is given", y.accept(1), true);
        Check.due("accept: at the offer", y.seriesOf(0, 5), 29);
        y.declare(0, 0, 2, 0);
        Check.due("accept: a rule", y.accept(2), false);
    }

    /** "@throws IllegalStateException if none is ASKED": none, all given, all waiting. */
    private static void noneIsAsked() {
        Real x = new Real();
        Check.refused(x, "confer: none at all", Check.STATE, x::confer);
        ask(x, 0, 0, 0, 30, 1);
        Check.due("confer: one", x.confer(), 1);
        Check.refused(x, "confer: given", Check.STATE, x::confer);
        x.curfew(0, 0, 72);
        ask(x, 0, 0, 0, 30, 1);
        Check.due("confer: none of one", x.confer(), 0);
        Check.refused(x, "confer: waiting", Check.STATE, x::confer);
        Real y = Scenes.offered();
        Check.refused(y, "confer: offered", Check.STATE, y::confer);
        y.end();
        Check.refused(y, "confer: none in a new season", Check.STATE, y::confer);
    }
}
