import java.util.ArrayList;
import java.util.List;

/** Everything that can be asked of a conference, in groups that are each for an object of its own. */
final class All {
    private static final int[] TIMES = {0, 4, 9, 10, 11, 20, 29, 30, 31, 39, 40, 50, 65, 66, 71};

    private All() {
    }

    /** Those that change nothing. */
    static List<Step> questions(Conference x) {
        List<Step> all = new ArrayList<>();
        all.add(Conference::season);
        all.add(Conference::rights);
        upTo(5, what -> all.add(c -> c.count(what)));
        upTo(x.count(0) - 1, i -> requests(all, i));
        upTo(x.count(4) - 1, i -> series(all, i));
        upTo(x.rights() - 1, i -> upTo(8, what -> all.add(c -> c.rightOf(i, what))));
        upTo(3, airport -> airports(all, airport));
        return all;
    }

    /** The questions, and behind them calls that tell what no question does, such as the quotas or who is in a group. */
    static List<List<Step>> groups(Conference x) {
        List<List<Step>> all = new ArrayList<>();
        all.add(questions(x));
        all.add(numbers());
        all.add(curfews());
        all.add(flights(x));
        all.add(closings());
        all.add(conferences(x));
        all.add(ends());
        return all;
    }

    private interface Each {
        void of(int number);
    }

    private static void upTo(int last, Each each) {
        for (int i = 0; i <= last; i++) {
            each.of(i);
        }
    }

    private static void requests(List<Step> all, int request) {
        upTo(5, what -> all.add(c -> c.requestOf(request, what)));
        all.add(c -> c.ahead(request));
    }

    private static void series(List<Step> all, int series) {
        upTo(11, what -> all.add(c -> c.seriesOf(series, what)));
        all.add(c -> c.earns(series) ? 1 : 0);
    }

    private static void airports(List<Step> all, int airport) {
        all.add(c -> c.noise(airport));
        upTo(9, carrier -> all.add(c -> c.isNew(carrier, airport) ? 1 : 0));
        for (int i = 0; i < 20; i += 3) {
            int week = i;
            upTo(2, kind -> all.add(c -> c.load(airport, kind, week % 7, week, 0, 71)));
            upTo(2, rule -> all.add(c -> c.worst(airport, rule, week % 7, week)));
        }
    }

    private static List<Step> numbers() {
        List<Step> all = new ArrayList<>();
        upTo(3, airport -> all.add(c -> c.quota(airport, 1)));
        upTo(3, airport -> upTo(6, rule -> all.add(c -> c.revise(airport, rule, 0))));
        upTo(9, carrier -> all.add(c -> c.merge(0, carrier)));
        return all;
    }

    private static List<Step> curfews() {
        List<Step> all = new ArrayList<>();
        all.add(Conference::end);
        for (int time : TIMES) {
            upTo(3, airport -> all.add(c -> c.requestOf(c.request(0, airport, 0, 0, time, 0, 0, 0, -1), 5)));
        }
        return all;
    }

    private static List<Step> flights(Conference x) {
        List<Step> all = new ArrayList<>();
        upTo(Math.min(x.count(4), 12) - 1, i -> upTo(19, week -> all.add(c -> c.fly(i, week, c.seriesOf(i, 5)))));
        return all;
    }

    private static List<Step> closings() {
        List<Step> all = new ArrayList<>();
        upTo(3, airport -> upTo(6, weekday -> upTo(19, week -> all.add(c -> c.close(airport, weekday, week) ? 1 : 0))));
        return all;
    }

    private static List<Step> conferences(Conference x) {
        List<Step> all = new ArrayList<>();
        all.add(Conference::confer);
        upTo(x.count(0) - 1, i -> requests(all, i));
        return all;
    }

    private static List<Step> ends() {
        List<Step> all = new ArrayList<>();
        all.add(Conference::end);
        all.add(Conference::season);
        upTo(9, right -> upTo(8, what -> all.add(c -> c.rightOf(right, what))));
        return all;
    }
}
