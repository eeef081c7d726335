import java.util.Arrays;
import java.util.List;

/** Long runs of calls, made by a fixed row of numbers, on the class and on the model: every answer is to be the same. */
public final class ModelTest {
    private static final int RUNS = 150;
    private static final String[] NAMES = {
        "declare", "revise", "curfew", "quota", "merge", "request", "link", "confer", "accept", "giveBack", "swap",
        "lease", "fly", "close", "end", "load", "worst", "noise", "requestOf", "ahead", "seriesOf", "earns", "rightOf",
        "isNew", "count", "season", "rights"
    };
    private static final int[] OFTEN = {
        1, 3, 1, 2, 1, 12, 2, 2, 6, 5, 3, 3, 12, 4, 0, 2, 3, 1, 3, 2, 2, 2, 2, 2, 1, 1, 1
    };
    private static final int[][] MOODS = {
        {0, 0, 0, 0, 0, 30, 3},
        {0, 2, 1, 2, 0, 2, 0, 1, 20, 8, 3, 2},
        {0, 1, 0, 0, 0, 0, 0, 0, 0, 3, 1, 1, 60, 8},
    };

    private long seed;
    /** Each run has a temper of its own: how crowded, how often wrong, how often a season ends. */
    private int temper;
    private int mood = 0;
    private int left = 20;

    public static void main(String[] args) {
        int runs = args.length > 0 ? Integer.parseInt(args[0]) : RUNS;
        for (int run = 0; run < runs; run++) {
            new ModelTest().compare(run);
        }
        Check.finish();
    }

    private int below(int bound) {
        seed = seed * 6364136223846793005L + 1442695040888963407L;
        return (int) Long.remainderUnsigned(seed >>> 33, bound);
    }

    private void compare(int run) {
        seed = 977L * run + 13;
        temper = run % 5;
        Real real = new Real();
        Model model = new Model();
        for (int call = 0; call < Real.MOST_CALLS; call++) {
            int op = pick(call, model);
            int[] a = arguments(op, model);
            if (below(25) == 0 && a.length > 0) {
                int[] odd = {-1, 60, Integer.MIN_VALUE, Integer.MAX_VALUE, 72, 20, 10, 7, 6, 4, 3, 2};
                a[below(a.length)] = odd[below(odd.length)];
            }
            String line = "run " + run + ", call " + call + ": " + NAMES[op] + Arrays.toString(a);
            if (!alike(line, c -> call(c, op, a), real, model)) {
                return;
            }
            if (call % 16 == 15 && !alikeInAll(line, real.told(), model)) {
                return;
            }
        }
    }

    private static boolean alike(String line, Step step, Real real, Model model) {
        String want = Step.answer(step, model);
        String got = Step.answer(step, real);
        Check.due(line, got, want);
        return got.equals(want);
    }

    /** Asks objects that are made anew, because one alone may not be called often enough; late ones but for a part. */
    private boolean alikeInAll(String line, List<Step> told, Model model) {
        List<Step> questions = All.questions(model);
        int asked = told.size() > 200 ? below(questions.size()) : 0;
        for (int objects = 0; objects < 8 && asked < questions.size(); objects++) {
            Real twin = Real.behind(told);
            for (; asked < questions.size() && twin.callsLeft() > 0; asked++) {
                if (!alike("question " + asked + " behind " + line, questions.get(asked), twin, model)) {
                    return false;
                }
            }
        }
        return true;
    }

    /** A run goes through moods, so that requests come together, flights come together, and seasons end behind them. */
    private int pick(int call, Model model) {
        if (call < 6) {
            return new int[] {0, 0, 0, 0, 3, 2}[call];
        }
        if (left == 0) {
            mood = (mood + 1) % MOODS.length;
            left = 1 + below(temper == 1 ? 12 : 36);
            if (mood == 1) {
                return 7;
            }
            if (mood == 0 && below(temper == 0 ? 3 : 2) == 0) {
                return 14;
            }
        }
        left--;
        int[] often = below(4) == 0 ? OFTEN : MOODS[mood];
        int rest = below(Arrays.stream(often).sum());
        for (int op = 0; op < often.length; op++) {
            rest -= often[op];
            if (rest < 0) {
                return op;
            }
        }
        return 5;
    }

    private int airport() {
        return below(3) > 0 ? 0 : below(4);
    }

    private int time() {
        switch (below(temper == 3 ? 3 : 8)) {
            case 0: return below(72);
            case 1: return 14 + below(6);
            case 2: return below(2) == 0 ? below(4) : 71 - below(8);
            default: return 28 + below(8);
        }
    }

    private int weekday() {
        return below(4) == 0 ? below(7) : below(2);
    }

    private int request(Model model) {
        return model.count(0) == 0 ? below(3) : below(model.count(0));
    }

    private int series(Model model) {
        return model.count(4) == 0 ? below(3) : below(model.count(4));
    }

    private int[] arguments(int op, Model m) {
        switch (op) {
            case 0: return new int[] {airport(), below(3), 1 + below(6), below(temper == 4 ? 9 : 4)};
            case 1: return new int[] {airport(), below(3), below(5)};
            case 2: {
                int from = below(73);
                return new int[] {airport(), from, Math.min(72, from + below(8))};
            }
            case 3: return new int[] {airport(), below(4) == 0 ? 9999 : below(300)};
            case 4: return new int[] {below(10), below(10)};
            case 5: return asking(m);
            case 6: return new int[] {latest(m), latest(m)};
            case 8: return new int[] {offered(m)};
            case 9: return returned(m);
            case 10: return new int[] {series(m), series(m)};
            case 11: return new int[] {series(m), below(10)};
            case 12: return flight(m);
            case 13: return new int[] {airport(), weekday(), below(20)};
            case 15: return new int[] {airport(), below(3), weekday(), below(20), below(36), 36 + below(36)};
            case 16: return new int[] {airport(), below(3), weekday(), below(20)};
            case 17: return new int[] {airport()};
            case 18: return new int[] {request(m), below(6)};
            case 19: return new int[] {request(m)};
            case 20: return new int[] {series(m), below(12)};
            case 21: return new int[] {series(m)};
            case 22: return new int[] {below(m.rights() + 1), below(9)};
            case 23: return new int[] {below(10), airport()};
            case 24: return new int[] {below(6)};
            default: return new int[0];
        }
    }

    private int[] asking(Model m) {
        if (m.rights() > 0 && below(2) == 0) {
            int right = below(m.rights());
            int[] a = {m.rightOf(right, 0), m.rightOf(right, 1), m.rightOf(right, 2), m.rightOf(right, 3),
                m.rightOf(right, 4), m.rightOf(right, 5), m.rightOf(right, 6), m.rightOf(right, 7), right};
            if (below(2) == 0) {
                a[4 + below(4)] += below(2);
            }
            return a;
        }
        int first = below(3) == 0 ? below(20) : below(4);
        int last = Math.min(19, first + (below(3) == 0 ? below(20) : 4 + below(4)));
        int carrier = below(temper == 2 ? 3 : 10);
        return new int[] {carrier, airport(), below(2), weekday(), time(), first, last, below(10), -1};
    }

    private int latest(Model m) {
        int all = m.count(0);
        return all == 0 ? 0 : Math.max(0, all - 1 - below(4));
    }

    private int offered(Model m) {
        for (int i = 0; i < 20; i++) {
            int request = request(m);
            if (m.count(0) > request && m.requestOf(request, 0) == 2) {
                return request;
            }
        }
        return request(m);
    }

    private int[] returned(Model m) {
        int series = there(m);
        int first = series < m.count(4) ? m.seriesOf(series, 6) : 0;
        return new int[] {series, below(3) == 0 ? first : below(20)};
    }

    /** A series, mostly one that is not gone. */
    private int there(Model m) {
        for (int i = 0; i < 5 && m.count(4) > 0; i++) {
            int series = series(m);
            if (m.seriesOf(series, 11) == 0) {
                return series;
            }
        }
        return series(m);
    }

    /** Mostly the first week without a flight of one of the lower series, so that some earn their rights. */
    private int[] flight(Model m) {
        int series = Math.min(there(m), there(m));
        if (series >= m.count(4)) {
            return new int[] {series, 0, 0};
        }
        int first = m.seriesOf(series, 6);
        int last = m.seriesOf(series, 7);
        int shift = below(5) == 0 ? below(9) - 4 : 0;
        int week = below(5) == 0 ? first + below(last - first + 1) : Math.min(last, first + m.seriesOf(series, 9));
        return new int[] {series, week, m.seriesOf(series, 5) + shift};
    }

    private static int number(boolean answer) {
        return answer ? 1 : 0;
    }

    private static int call(Conference x, int op, int[] a) {
        switch (op) {
            case 0: return x.declare(a[0], a[1], a[2], a[3]);
            case 1: return x.revise(a[0], a[1], a[2]);
            case 2: x.curfew(a[0], a[1], a[2]); return 0;
            case 3: return x.quota(a[0], a[1]);
            case 4: return x.merge(a[0], a[1]);
            case 5: return x.request(a[0], a[1], a[2], a[3], a[4], a[5], a[6], a[7], a[8]);
            case 6: x.link(a[0], a[1]); return 0;
            case 7: return x.confer();
            case 8: return number(x.accept(a[0]));
            case 9: return x.giveBack(a[0], a[1]);
            case 10: x.swap(a[0], a[1]); return 0;
            case 11: return x.lease(a[0], a[1]);
            case 12: return x.fly(a[0], a[1], a[2]);
            case 13: return number(x.close(a[0], a[1], a[2]));
            case 14: return x.end();
            case 15: return x.load(a[0], a[1], a[2], a[3], a[4], a[5]);
            case 16: return x.worst(a[0], a[1], a[2], a[3]);
            case 17: return x.noise(a[0]);
            case 18: return x.requestOf(a[0], a[1]);
            case 19: return x.ahead(a[0]);
            case 20: return x.seriesOf(a[0], a[1]);
            case 21: return number(x.earns(a[0]));
            case 22: return x.rightOf(a[0], a[1]);
            case 23: return number(x.isNew(a[0], a[1]));
            case 24: return x.count(a[0]);
            case 25: return x.season();
            default: return x.rights();
        }
    }
}
