/** With several exceptions due at once, the one that the call's comment lists first; and nothing changes by it. */
public final class PrecedenceTest {
    private static final int NONE = SlotConference.NONE;

    public static void main(String[] args) {
        declare();
        reviseCurfewQuota();
        merge();
        request();
        link();
        accept();
        giveBack();
        swap();
        leaseAndFly();
        questions();
        Check.finish();
    }

    private static void index(Real x, String what, Step step) {
        Check.refused(x, what, Check.INDEX, () -> step.on(x));
    }

    private static void argument(Real x, String what, Step step) {
        Check.refused(x, what, Check.ARGUMENT, () -> step.on(x));
    }

    private static void state(Real x, String what, Step step) {
        Check.refused(x, what, Check.STATE, () -> step.on(x));
    }

    private static void declare() {
        Real x = new Real();
        for (int rule = 0; rule < 6; rule++) {
            x.declare(1, 0, 1, 20);
        }
        int[][] wrong = {{3, 1, 1}, {-1, 1, 1}, {0, 7, 1}, {0, 0, 1}, {0, 1, 21}, {0, 1, -1}};
        for (int[] w : wrong) {
            index(x, "declare: airport ahead of a range", c -> c.declare(4, w[0], w[1], w[2]));
            index(x, "declare: airport -1 ahead of a range", c -> c.declare(-1, w[0], w[1], w[2]));
            argument(x, "declare: a range ahead of six rules", c -> c.declare(1, w[0], w[1], w[2]));
        }
        state(x, "declare: six rules", c -> c.declare(1, 0, 1, 1));
    }

    private static void reviseCurfewQuota() {
        Real x = Scenes.withRules();
        int[] most = {-1, 21};
        for (int m : most) {
            index(x, "revise: airport ahead of the number", c -> c.revise(4, 0, m));
            index(x, "revise: rule ahead of the number", c -> c.revise(0, 3, m));
            index(x, "revise: rule -1 ahead of the number", c -> c.revise(0, -1, m));
        }
        int[][] times = {{-1, 0}, {73, 73}, {10, 9}, {0, 73}};
        for (int[] t : times) {
            index(x, "curfew: airport ahead of a time", c -> {
                c.curfew(4, t[0], t[1]);
                return 0;
            });
        }
        index(x, "quota: airport ahead of the number", c -> c.quota(4, -1));
        index(x, "quota: airport -1 ahead of the number", c -> c.quota(-1, 10000));
    }

    private static void merge() {
        Real x = new Real();
        index(x, "merge: no carrier ahead of one group", c -> c.merge(10, 10));
        index(x, "merge: no carrier -1 ahead of one group", c -> c.merge(-1, -1));
        index(x, "merge: two that are none", c -> c.merge(-1, 10));
        state(x, "merge: a carrier with itself", c -> c.merge(0, 0));
    }

    /** Two rights of carrier 2, the first claimed; then requests up to 60. */
    private static void request() {
        Real x = Scenes.withRights();
        x.request(2, 1, 1, 3, 30, 4, 12, 5, 0);
        ofRequest(x, "with room");
        for (int i = 1; i < 60; i++) {
            Scenes.ask(x, i % 10, 0, 0, 30, 5);
        }
        ofRequest(x, "with 60");
        state(x, "request: 60", c -> c.request(2, 1, 1, 3, 30, 4, 12, 5, NONE));
        state(x, "request: 60, with a right that is free", c -> c.request(2, 1, 1, 3, 30, 4, 12, 5, 1));
    }

    private static void ofRequest(Real x, String how) {
        int[][] nobody = {{10, 1, 0}, {-1, 1, 0}, {2, 4, 0}, {2, -1, 0}, {2, 1, 2}, {2, 1, -2}};
        int[][] wrong = {
            {2, 3, 30, 4, 12, 5}, {-1, 3, 30, 4, 12, 5}, {1, 7, 30, 4, 12, 5}, {1, -1, 30, 4, 12, 5}, {1, 3, 72, 4, 12, 5},
            {1, 3, -1, 4, 12, 5}, {1, 3, 30, -1, 12, 5}, {1, 3, 30, 20, 20, 5}, {1, 3, 30, 13, 12, 5}, {1, 3, 30, 4, 20, 5},
            {1, 3, 30, 4, 12, 10}, {1, 3, 30, 4, 12, -1}
        };
        for (int[] n : nobody) {
            index(x, "request " + how + ": nobody ahead of a claim", c -> c.request(n[0], n[1], 1, 3, 30, 4, 12, 5, n[2]));
            index(x, "request " + how + ": nobody ahead of a range",
                    c -> c.request(n[0], n[1], 2, 7, 72, 20, 19, 10, n[2]));
        }
        for (int[] w : wrong) {
            argument(x, "request " + how + ": a range ahead of a claimed right",
                    c -> c.request(2, 1, w[0], w[1], w[2], w[3], w[4], w[5], 0));
            argument(x, "request " + how + ": a range ahead of another's right",
                    c -> c.request(3, 1, w[0], w[1], w[2], w[3], w[4], w[5], 1));
            argument(x, "request " + how + ": a range ahead of a right of another airport",
                    c -> c.request(2, 0, w[0], w[1], w[2], w[3], w[4], w[5], 1));
            argument(x, "request " + how + ": a range", c -> c.request(2, 1, w[0], w[1], w[2], w[3], w[4], w[5], NONE));
        }
        state(x, "request " + how + ": claimed already", c -> c.request(2, 1, 1, 3, 30, 4, 12, 5, 0));
        state(x, "request " + how + ": another's right", c -> c.request(3, 1, 1, 3, 30, 4, 12, 5, 1));
        state(x, "request " + how + ": of another airport", c -> c.request(2, 0, 1, 3, 30, 4, 12, 5, 1));
        state(x, "request " + how + ": of another kind", c -> c.request(2, 1, 0, 3, 30, 4, 12, 5, 1));
        state(x, "request " + how + ": of another weekday", c -> c.request(2, 1, 1, 4, 30, 4, 12, 5, 1));
    }

    private static Step linking(int request, int other) {
        return c -> {
            c.link(request, other);
            return 0;
        };
    }

    private static void link() {
        Real x = Scenes.asked();
        x.link(0, 1);
        index(x, "link: none ahead of the same", linking(6, 6));
        index(x, "link: -1 ahead of the same", linking(-1, -1));
        index(x, "link: no other one ahead of a linked one", linking(0, 6));
        index(x, "link: none ahead of a linked other one", linking(6, 0));
        argument(x, "link: the same ahead of a linked one", linking(0, 0));
        state(x, "link: one is linked", linking(0, 2));
        state(x, "link: the other one is linked", linking(2, 0));
        x.confer();
        index(x, "link: no other one ahead of one that is given", linking(2, 6));
        index(x, "link: none ahead of an other one that is given", linking(-1, 2));
        argument(x, "link: the same ahead of one that is given", linking(2, 2));
        state(x, "link: both are given", linking(2, 3));
    }

    private static void accept() {
        Real x = Scenes.asked();
        index(x, "accept: none, though others are only asked", c -> c.accept(6) ? 1 : 0);
        state(x, "accept: asked", c -> c.accept(0) ? 1 : 0);
    }

    private static void giveBack() {
        Real x = Scenes.given(3, 12);
        x.giveBack(0, 0);
        int[] weeks = {-1, 20};
        for (int week : weeks) {
            index(x, "giveBack: series ahead of the week", c -> c.giveBack(6, week));
            index(x, "giveBack: series -1 ahead of the week", c -> c.giveBack(-1, week));
            argument(x, "giveBack: the week ahead of a series that is gone", c -> c.giveBack(0, week));
            argument(x, "giveBack: the week ahead of one that is there", c -> c.giveBack(1, week));
        }
        state(x, "giveBack: gone", c -> c.giveBack(0, 3));
        state(x, "giveBack: gone, and its last week below", c -> c.giveBack(0, 13));
        state(x, "giveBack: its last week below", c -> c.giveBack(1, 13));
        state(x, "giveBack: its last week far below", c -> c.giveBack(1, 19));
    }

    private static Step swapping(int series, int other) {
        return c -> {
            c.swap(series, other);
            return 0;
        };
    }

    private static void swap() {
        Real x = Scenes.given(3, 12);
        Scenes.ask(x, 0, 1, 0, 30, 5);
        x.confer();
        x.giveBack(0, 0);
        index(x, "swap: none ahead of the same", swapping(7, 7));
        index(x, "swap: -1 ahead of the same", swapping(-1, -1));
        index(x, "swap: no other one ahead of one that is gone", swapping(0, 7));
        index(x, "swap: none ahead of an other one that is gone", swapping(7, 0));
        argument(x, "swap: the same ahead of one that is gone", swapping(0, 0));
        argument(x, "swap: the same", swapping(1, 1));
        state(x, "swap: gone", swapping(0, 1));
        state(x, "swap: the other one is gone", swapping(1, 0));
        state(x, "swap: two airports", swapping(1, 6));
        state(x, "swap: gone, and of two airports", swapping(0, 6));
    }

    private static void leaseAndFly() {
        Real x = Scenes.given(3, 12);
        x.giveBack(0, 0);
        x.fly(1, 5, 30);
        index(x, "lease: no carrier ahead of one that is gone", c -> c.lease(0, 10));
        index(x, "lease: no carrier -1 ahead of one that is gone", c -> c.lease(0, -1));
        index(x, "lease: neither", c -> c.lease(6, 10));
        state(x, "lease: gone", c -> c.lease(0, 1));
        int[][] wrong = {{2, 30}, {13, 30}, {-1, 30}, {20, 30}, {5, -1}, {5, 72}};
        for (int[] w : wrong) {
            index(x, "fly: series ahead of a range", c -> c.fly(6, w[0], w[1]));
            index(x, "fly: series -1 ahead of a range", c -> c.fly(-1, w[0], w[1]));
            argument(x, "fly: a range ahead of a series that is gone", c -> c.fly(0, w[0], w[1]));
            argument(x, "fly: a range ahead of a flight in that week", c -> c.fly(1, w[0], w[1]));
        }
        state(x, "fly: gone", c -> c.fly(0, 5, 30));
        state(x, "fly: a flight in that week", c -> c.fly(1, 5, 30));
    }

    private static void questions() {
        Real x = Scenes.withRights();
        index(x, "close: airport ahead of the rest", c -> c.close(4, 7, 20) ? 1 : 0);
        index(x, "load: airport ahead of the rest", c -> c.load(4, 3, 7, 20, 72, 71));
        index(x, "worst: airport ahead of the rest", c -> c.worst(4, 0, 7, 20));
        index(x, "worst: rule ahead of the rest", c -> c.worst(0, 3, 7, 20));
        index(x, "requestOf: request ahead of what", c -> c.requestOf(0, 6));
        index(x, "seriesOf: series ahead of what", c -> c.seriesOf(0, 12));
        index(x, "rightOf: right ahead of what", c -> c.rightOf(2, 9));
        index(x, "isNew: neither", c -> c.isNew(10, 4) ? 1 : 0);
    }
}
