import java.util.ArrayList;
import java.util.Comparator;
import java.util.HashMap;
import java.util.HashSet;
import java.util.List;
import java.util.Map;
import java.util.Set;

/** The document told a second time, in another way and without care for speed: what ModelTest compares the class with. */
final class Model implements Conference {
    private record Rule(int kind, int length, int most) {
    }

    /** A day's slot in one week. */
    private record Slot(int airport, int kind, int weekday, int week, int time) {
    }

    private record Day(int airport, int weekday, int week) {
    }

    private static final class Asked {
        int number, carrier, airport, kind, weekday, time, first, last, noise;
        Earned claim;
        int state = 0;
        int sort = -1;
        Given series;
        Integer offer;
        Asked partner;

        int weeks() {
            return last - first + 1;
        }
    }

    private static final class Given {
        int number, holder, user, time, first, last;
        Asked request;
        final Map<Integer, Integer> flights = new HashMap<>();
        boolean gone;
    }

    private static final class Earned {
        int carrier, airport, kind, weekday, time, first, last, noise;
        Asked claimedBy;
    }

    private final List<List<Rule>> rules = new ArrayList<>();
    private final List<Set<Integer>> barred = new ArrayList<>();
    private final int[] quotas = {9999, 9999, 9999, 9999};
    private final List<Set<Integer>> groups = new ArrayList<>();
    private final List<Asked> requests = new ArrayList<>();
    private final List<Asked> waiting = new ArrayList<>();
    private final List<Given> series = new ArrayList<>();
    private List<Earned> rights = new ArrayList<>();
    private final Set<Day> closed = new HashSet<>();
    private int season = 0;

    Model() {
        for (int i = 0; i < 4; i++) {
            rules.add(new ArrayList<>());
            barred.add(new HashSet<>());
        }
        for (int i = 0; i < 10; i++) {
            groups.add(new HashSet<>(List.of(i)));
        }
    }

    private static void index(boolean there) {
        if (!there) {
            throw new IndexOutOfBoundsException();
        }
    }

    private static void argument(boolean right) {
        if (!right) {
            throw new IllegalArgumentException();
        }
    }

    private static void state(boolean right) {
        if (!right) {
            throw new IllegalStateException();
        }
    }

    private static boolean in(int value, int least, int most) {
        return least <= value && value <= most;
    }

    public int declare(int airport, int kind, int length, int most) {
        index(in(airport, 0, 3));
        argument(in(kind, 0, 2) && in(length, 1, 6) && in(most, 0, 20));
        state(rules.get(airport).size() < 6);
        rules.get(airport).add(new Rule(kind, length, most));
        return rules.get(airport).size() - 1;
    }

    public int revise(int airport, int rule, int most) {
        index(in(airport, 0, 3) && in(rule, 0, rules.get(airport).size() - 1));
        argument(in(most, 0, 20));
        Rule was = rules.get(airport).get(rule);
        rules.get(airport).set(rule, new Rule(was.kind, was.length, most));
        return was.most;
    }

    public void curfew(int airport, int from, int to) {
        index(in(airport, 0, 3));
        argument(in(from, 0, 72) && in(to, from, 72));
        barred.get(airport).clear();
        for (int time = from; time < to; time++) {
            barred.get(airport).add(time);
        }
    }

    public int quota(int airport, int quota) {
        index(in(airport, 0, 3));
        argument(in(quota, 0, 9999));
        int was = quotas[airport];
        quotas[airport] = quota;
        return was;
    }

    public int merge(int carrier, int other) {
        index(in(carrier, 0, 9) && in(other, 0, 9));
        state(!groups.get(carrier).contains(other));
        Set<Integer> all = new HashSet<>(groups.get(carrier));
        all.addAll(groups.get(other));
        for (int each : all) {
            groups.set(each, all);
        }
        return all.size();
    }

    public int request(int carrier, int airport, int kind, int weekday, int time, int first, int last, int noise, int right) {
        index(in(carrier, 0, 9) && in(airport, 0, 3) && (right == -1 || in(right, 0, rights.size() - 1)));
        argument(in(kind, 0, 1) && in(weekday, 0, 6) && in(time, 0, 71) && in(first, 0, 19) && in(last, first, 19)
                && in(noise, 0, 9));
        state(requests.size() < 60);
        Earned claim = right == -1 ? null : rights.get(right);
        if (claim != null) {
            state(claim.carrier == carrier && claim.airport == airport && claim.kind == kind && claim.weekday == weekday);
            state(claim.claimedBy == null);
        }
        Asked made = new Asked();
        made.number = requests.size();
        made.carrier = carrier;
        made.airport = airport;
        made.kind = kind;
        made.weekday = weekday;
        made.time = time;
        made.first = first;
        made.last = last;
        made.noise = noise;
        made.claim = claim;
        if (claim != null) {
            claim.claimedBy = made;
        }
        requests.add(made);
        return made.number;
    }

    public void link(int request, int other) {
        index(in(request, 0, requests.size() - 1) && in(other, 0, requests.size() - 1));
        argument(request != other);
        Asked a = requests.get(request);
        Asked b = requests.get(other);
        state(a.partner == null && b.partner == null && a.state == 0 && b.state == 0);
        a.partner = b;
        b.partner = a;
    }

    private int sortNow(Asked a) {
        if (a.claim != null) {
            Earned c = a.claim;
            return c.time == a.time && c.first == a.first && c.last == a.last && c.noise == a.noise ? 0 : 1;
        }
        return newAt(a.carrier, a.airport) ? 2 : 3;
    }

    private boolean newAt(int carrier, int airport) {
        Set<Integer> group = groups.get(carrier);
        long there = rights.stream().filter(r -> r.airport == airport && group.contains(r.carrier)).count();
        long flying = series.stream()
                .filter(s -> !s.gone && s.request.airport == airport && group.contains(s.holder)).count();
        return there + flying <= 2;
    }

    private List<Asked> sorted(int sort) {
        List<Asked> row = new ArrayList<>();
        for (Asked a : requests) {
            if (a.state == 0 && a.sort == sort) {
                row.add(a);
            }
        }
        row.sort(Comparator.comparingInt((Asked a) -> -a.weeks()).thenComparingInt(a -> a.number));
        return row;
    }

    public int confer() {
        state(requests.stream().anyMatch(a -> a.state == 0));
        requests.stream().filter(a -> a.state == 0).forEach(a -> a.sort = sortNow(a));
        List<Asked> order = sorted(0);
        order.addAll(sorted(1));
        List<Asked> news = sorted(2);
        List<Asked> others = sorted(3);
        while (!news.isEmpty() && !others.isEmpty()) {
            order.add(news.remove(0));
            order.add(others.remove(0));
        }
        order.addAll(news);
        order.addAll(others);
        int before = series.size();
        for (Asked a : order) {
            if (a.state == 0) {
                lookAt(a);
            }
        }
        return series.size() - before;
    }

    private void lookAt(Asked a) {
        if (a.partner != null) {
            lookAtPair(a, a.partner);
            return;
        }
        if (why(a, a.time) == 0) {
            give(a, a.time);
            return;
        }
        int[] steps = {-1, 1, -2, 2, -3, 3};
        a.state = 3;
        for (int step : steps) {
            if (a.offer == null && in(a.time + step, 0, 71) && why(a, a.time + step) == 0) {
                a.offer = a.time + step;
                a.state = 2;
            }
        }
        waiting.add(a);
    }

    private void lookAtPair(Asked a, Asked b) {
        if (why(a, a.time) == 0) {
            Given tried = give(a, a.time);
            if (why(b, b.time) == 0) {
                give(b, b.time);
                return;
            }
            series.remove(tried);
            a.series = null;
        }
        a.state = 3;
        b.state = 3;
        waiting.add(a);
        waiting.add(b);
    }

    private Given give(Asked a, int time) {
        Given made = new Given();
        made.number = series.size();
        made.request = a;
        made.holder = a.carrier;
        made.user = a.carrier;
        made.time = time;
        made.first = a.first;
        made.last = a.last;
        series.add(made);
        a.series = made;
        a.state = 1;
        a.offer = null;
        waiting.remove(a);
        return made;
    }

    private List<Slot> slots() {
        List<Slot> all = new ArrayList<>();
        for (Given s : series) {
            for (int week = s.first; !s.gone && week <= s.last; week++) {
                all.add(new Slot(s.request.airport, s.request.kind, s.request.weekday, week, s.time));
            }
        }
        return all;
    }

    private static boolean night(int time) {
        return time <= 17 || time >= 66;
    }

    private int why(Asked a, int time) {
        if (barred.get(a.airport).contains(time)) {
            return 1;
        }
        if (night(time) && noise(a.airport) + a.noise * a.weeks() > quotas[a.airport]) {
            return 2;
        }
        int[][] there = new int[20][72];
        int[][] alike = new int[20][72];
        for (Slot s : slots()) {
            if (s.airport == a.airport && s.weekday == a.weekday) {
                there[s.week][s.time]++;
                alike[s.week][s.time] += s.kind == a.kind ? 1 : 0;
            }
        }
        for (int week = a.first; week <= a.last; week++) {
            there[week][time]++;
            alike[week][time]++;
        }
        List<Rule> all = rules.get(a.airport);
        for (int rule = 0; rule < all.size(); rule++) {
            Rule r = all.get(rule);
            if (r.kind != 2 && r.kind != a.kind) {
                continue;
            }
            for (int week = a.first; week <= a.last; week++) {
                int[] day = r.kind == 2 ? there[week] : alike[week];
                for (int from = 0; from + r.length <= 72; from++) {
                    if (from <= time && time < from + r.length && sum(day, from, r.length) > r.most) {
                        return 10 + rule;
                    }
                }
            }
        }
        return 0;
    }

    private static int sum(int[] day, int from, int length) {
        int all = 0;
        for (int i = from; i < from + length; i++) {
            all += day[i];
        }
        return all;
    }

    public boolean accept(int request) {
        index(in(request, 0, requests.size() - 1));
        Asked a = requests.get(request);
        state(a.state == 2);
        if (why(a, a.offer) == 0) {
            give(a, a.offer);
            return true;
        }
        a.offer = null;
        a.state = 3;
        return false;
    }

    public int giveBack(int number, int week) {
        index(in(number, 0, series.size() - 1));
        argument(in(week, 0, 19));
        Given s = series.get(number);
        state(!s.gone && s.last >= week);
        if (s.first >= week) {
            s.gone = true;
        } else {
            s.last = week - 1;
        }
        int given = 0;
        for (Asked a : new ArrayList<>(waiting)) {
            if (a.airport == s.request.airport && a.partner == null && why(a, a.time) == 0) {
                give(a, a.time);
                given++;
            }
        }
        return given;
    }

    public void swap(int number, int other) {
        index(in(number, 0, series.size() - 1) && in(other, 0, series.size() - 1));
        argument(number != other);
        Given a = series.get(number);
        Given b = series.get(other);
        state(!a.gone && !b.gone && a.request.airport == b.request.airport);
        int[] kept = {a.holder, a.user};
        a.holder = b.holder;
        a.user = b.user;
        b.holder = kept[0];
        b.user = kept[1];
    }

    public int lease(int number, int carrier) {
        index(in(number, 0, series.size() - 1) && in(carrier, 0, 9));
        Given s = series.get(number);
        state(!s.gone);
        int was = s.user;
        s.user = carrier;
        return was;
    }

    private static int off(Given s) {
        return (int) s.flights.values().stream().filter(time -> Math.abs(time - s.time) >= 3).count();
    }

    public int fly(int number, int week, int time) {
        index(in(number, 0, series.size() - 1));
        Given s = series.get(number);
        argument(in(week, s.first, s.last) && in(time, 0, 71));
        state(!s.gone && !s.flights.containsKey(week));
        s.flights.put(week, time);
        if (off(s) == 3) {
            s.gone = true;
        }
        return off(s);
    }

    public boolean close(int airport, int weekday, int week) {
        index(in(airport, 0, 3));
        argument(in(weekday, 0, 6) && in(week, 0, 19));
        return closed.add(new Day(airport, weekday, week));
    }

    private int used(Given s) {
        int weeks = 0;
        for (int week = s.first; week <= s.last; week++) {
            if (s.flights.containsKey(week) || closed.contains(new Day(s.request.airport, s.request.weekday, week))) {
                weeks++;
            }
        }
        return weeks;
    }

    private boolean earning(Given s) {
        int weeks = s.last - s.first + 1;
        return !s.gone && weeks >= 5 && used(s) * 5 >= weeks * 4;
    }

    public int end() {
        state(season < 20);
        List<Earned> next = new ArrayList<>();
        for (Given s : series) {
            if (earning(s)) {
                Earned right = new Earned();
                right.carrier = s.holder;
                right.airport = s.request.airport;
                right.kind = s.request.kind;
                right.weekday = s.request.weekday;
                right.time = s.time;
                right.first = s.first;
                right.last = s.last;
                right.noise = s.request.noise;
                next.add(right);
            }
        }
        rights = next;
        requests.clear();
        waiting.clear();
        series.clear();
        closed.clear();
        season++;
        return rights.size();
    }

    public int season() {
        return season;
    }

    private int slotsOn(int airport, int kind, int weekday, int week, int from, int to) {
        return (int) slots().stream().filter(s -> s.airport == airport && s.weekday == weekday && s.week == week
                && (kind == 2 || s.kind == kind) && in(s.time, from, to)).count();
    }

    public int load(int airport, int kind, int weekday, int week, int from, int to) {
        index(in(airport, 0, 3));
        argument(in(kind, 0, 2) && in(weekday, 0, 6) && in(week, 0, 19) && in(from, 0, 71) && in(to, from, 71));
        return slotsOn(airport, kind, weekday, week, from, to);
    }

    public int worst(int airport, int rule, int weekday, int week) {
        index(in(airport, 0, 3) && in(rule, 0, rules.get(airport).size() - 1));
        argument(in(weekday, 0, 6) && in(week, 0, 19));
        Rule r = rules.get(airport).get(rule);
        int worst = 0;
        for (int from = 0; from + r.length <= 72; from++) {
            worst = Math.max(worst, slotsOn(airport, r.kind, weekday, week, from, from + r.length - 1));
        }
        return worst;
    }

    public int noise(int airport) {
        index(in(airport, 0, 3));
        return series.stream().filter(s -> !s.gone && s.request.airport == airport && night(s.time))
                .mapToInt(s -> s.request.noise * (s.last - s.first + 1)).sum();
    }

    public int requestOf(int request, int what) {
        index(in(request, 0, requests.size() - 1));
        argument(in(what, 0, 5));
        Asked a = requests.get(request);
        int sort = a.state == 0 ? sortNow(a) : a.sort;
        int number = a.series == null ? -1 : a.series.number;
        int offer = a.offer == null ? -1 : a.offer;
        int partner = a.partner == null ? -1 : a.partner.number;
        int reason = a.state == 1 ? 0 : why(a, a.time);
        return new int[] {a.state, sort, number, offer, partner, reason}[what];
    }

    public int ahead(int request) {
        index(in(request, 0, requests.size() - 1));
        Asked asked = requests.get(request);
        int place = waiting.indexOf(asked);
        if (place < 0) {
            return -1;
        }
        return (int) waiting.subList(0, place).stream().filter(a -> a.airport == asked.airport).count();
    }

    public int seriesOf(int number, int what) {
        index(in(number, 0, series.size() - 1));
        argument(in(what, 0, 11));
        Given s = series.get(number);
        Asked a = s.request;
        return new int[] {s.holder, s.user, a.airport, a.kind, a.weekday, s.time, s.first, s.last, a.number, used(s),
            off(s), s.gone ? 1 : 0}[what];
    }

    public boolean earns(int number) {
        index(in(number, 0, series.size() - 1));
        return earning(series.get(number));
    }

    public int rights() {
        return rights.size();
    }

    public int rightOf(int right, int what) {
        index(in(right, 0, rights.size() - 1));
        argument(in(what, 0, 8));
        Earned r = rights.get(right);
        int claim = r.claimedBy == null ? -1 : r.claimedBy.number;
        return new int[] {r.carrier, r.airport, r.kind, r.weekday, r.time, r.first, r.last, r.noise, claim}[what];
    }

    public boolean isNew(int carrier, int airport) {
        index(in(carrier, 0, 9) && in(airport, 0, 3));
        return newAt(carrier, airport);
    }

    public int count(int what) {
        argument(in(what, 0, 5));
        if (what == 0) {
            return requests.size();
        }
        if (what <= 3) {
            return (int) requests.stream().filter(a -> a.state == what).count();
        }
        return (int) series.stream().filter(s -> what == 4 || s.gone).count();
    }
}
