/** For each argument of each call: the least and the greatest are taken, one below and one above are refused. */
public final class ArgumentsTest {
    private static final int NONE = SlotConference.NONE;
    private static final int LARGE = Integer.MAX_VALUE;
    private static final int SMALL = Integer.MIN_VALUE;

    /** Makes an object that a call with the right arguments is taken by. */
    private interface Scene {
        Real made();
    }

    /** A call, its arguments in a row. */
    private interface Call {
        int on(Conference x, int[] a);
    }

    private final String name;
    private final Scene scene;
    private final Call call;

    private ArgumentsTest(String name, Scene scene, Call call) {
        this.name = name;
        this.scene = scene;
        this.call = call;
    }

    public static void main(String[] args) {
        airports();
        requests();
        conferences();
        series();
        flights();
        loads();
        questions();
        noneAtAll();
        Check.finish();
    }

    private void index(int at, int least, int most, int... right) {
        bounds(at, least, most, Check.INDEX, right);
    }

    private void range(int at, int least, int most, int... right) {
        bounds(at, least, most, Check.ARGUMENT, right);
    }

    private void bounds(int at, int least, int most, Class<? extends Exception> refusal, int... right) {
        int[] taken = {least, most};
        for (int value : taken) {
            int[] a = with(right, at, value);
            String got = Step.answer(x -> call.on(x, a), scene.made());
            Check.due(text(at, value) + " is taken", Character.isDigit(got.charAt(got.length() - 1)), true);
        }
        int[] refused = {least - 1, most + 1, SMALL, LARGE};
        for (int value : refused) {
            Real x = scene.made();
            int[] a = with(right, at, value);
            Check.refused(x, text(at, value), refusal, () -> call.on(x, a));
        }
    }

    private String text(int at, int value) {
        return name + " with " + value + " as argument " + at;
    }

    private static int[] with(int[] right, int at, int value) {
        int[] a = right.clone();
        a[at] = value;
        return a;
    }

    private static int number(boolean answer) {
        return answer ? 1 : 0;
    }

    private static void airports() {
        ArgumentsTest declare = new ArgumentsTest("declare", Scenes::withRules, (x, a) -> x.declare(a[0], a[1], a[2], a[3]));
        declare.index(0, 0, 3, 1, 2, 3, 4);
        declare.range(1, 0, 2, 1, 2, 3, 4);
        declare.range(2, 1, 6, 1, 2, 3, 4);
        declare.range(3, 0, 20, 1, 2, 3, 4);
        ArgumentsTest revise = new ArgumentsTest("revise", Scenes::withRules, (x, a) -> x.revise(a[0], a[1], a[2]));
        revise.index(0, 0, 3, 1, 2, 4);
        revise.index(1, 0, 2, 1, 1, 4);
        revise.range(2, 0, 20, 1, 1, 4);
        // One is set already, so that half of a refused one would be seen.
        ArgumentsTest curfew = new ArgumentsTest("curfew", ArgumentsTest::withCurfew, (x, a) -> {
            x.curfew(a[0], a[1], a[2]);
            return 0;
        });
        curfew.index(0, 0, 3, 1, 10, 40);
        curfew.range(1, 0, 72, 1, 10, 72);
        curfew.range(1, 0, 40, 1, 10, 40);
        curfew.range(1, 0, 0, 1, 0, 0);
        curfew.range(2, 0, 72, 1, 0, 40);
        curfew.range(2, 30, 72, 1, 30, 40);
        curfew.range(2, 72, 72, 1, 72, 72);
        ArgumentsTest quota = new ArgumentsTest("quota", Scenes::withRules, (x, a) -> x.quota(a[0], a[1]));
        quota.index(0, 0, 3, 1, 50);
        quota.range(1, 0, 9999, 1, 50);
        ArgumentsTest merge = new ArgumentsTest("merge", Scenes::withRules, (x, a) -> x.merge(a[0], a[1]));
        merge.index(0, 0, 9, 4, 5);
        merge.index(1, 0, 9, 4, 5);
    }

    private static Real withCurfew() {
        Real x = Scenes.withRules();
        x.curfew(1, 5, 50);
        return x;
    }

    private static void requests() {
        ArgumentsTest request = new ArgumentsTest("request", Scenes::withRights,
                (x, a) -> x.request(a[0], a[1], a[2], a[3], a[4], a[5], a[6], a[7], a[8]));
        request.index(0, 0, 9, 2, 1, 1, 3, 30, 4, 12, 5, NONE);
        request.index(1, 0, 3, 2, 1, 1, 3, 30, 4, 12, 5, NONE);
        request.range(2, 0, 1, 2, 1, 1, 3, 30, 4, 12, 5, NONE);
        request.range(3, 0, 6, 2, 1, 1, 3, 30, 4, 12, 5, NONE);
        request.range(4, 0, 71, 2, 1, 1, 3, 30, 4, 12, 5, NONE);
        request.range(5, 0, 19, 2, 1, 1, 3, 30, 4, 19, 5, NONE);
        request.range(5, 0, 12, 2, 1, 1, 3, 30, 4, 12, 5, NONE);
        request.range(5, 0, 0, 2, 1, 1, 3, 30, 0, 0, 5, NONE);
        request.range(6, 0, 19, 2, 1, 1, 3, 30, 0, 12, 5, NONE);
        request.range(6, 4, 19, 2, 1, 1, 3, 30, 4, 12, 5, NONE);
        request.range(6, 19, 19, 2, 1, 1, 3, 30, 19, 19, 5, NONE);
        request.range(7, 0, 9, 2, 1, 1, 3, 30, 4, 12, 5, NONE);
        request.index(8, NONE, 1, 2, 1, 1, 3, 30, 4, 12, 5, NONE);
        ArgumentsTest claim = new ArgumentsTest("request with a right", Scenes::withRights, request.call);
        claim.range(4, 0, 71, 2, 1, 1, 3, 30, 4, 12, 5, 1);
        claim.range(5, 0, 12, 2, 1, 1, 3, 30, 4, 12, 5, 1);
        claim.range(6, 4, 19, 2, 1, 1, 3, 30, 4, 12, 5, 1);
        claim.range(7, 0, 9, 2, 1, 1, 3, 30, 4, 12, 5, 1);
    }

    private static void conferences() {
        ArgumentsTest link = new ArgumentsTest("link", Scenes::asked, (x, a) -> {
            x.link(a[0], a[1]);
            return 0;
        });
        link.index(0, 0, 5, 2, 3);
        link.index(1, 0, 5, 2, 3);
        ArgumentsTest accept = new ArgumentsTest("accept", Scenes::offered, (x, a) -> number(x.accept(a[0])));
        accept.index(0, 0, 5, 3);
        ArgumentsTest requestOf = new ArgumentsTest("requestOf", Scenes::offered, (x, a) -> x.requestOf(a[0], a[1]));
        requestOf.index(0, 0, 5, 3, 0);
        requestOf.range(1, 0, 5, 3, 0);
        ArgumentsTest ahead = new ArgumentsTest("ahead", Scenes::offered, (x, a) -> x.ahead(a[0]));
        ahead.index(0, 0, 5, 3);
    }

    private static void series() {
        Scene allWeeks = () -> Scenes.given(0, 19);
        ArgumentsTest giveBack = new ArgumentsTest("giveBack", allWeeks, (x, a) -> x.giveBack(a[0], a[1]));
        giveBack.index(0, 0, 5, 3, 10);
        giveBack.range(1, 0, 19, 3, 10);
        ArgumentsTest swap = new ArgumentsTest("swap", allWeeks, (x, a) -> {
            x.swap(a[0], a[1]);
            return 0;
        });
        swap.index(0, 0, 5, 2, 3);
        swap.index(1, 0, 5, 2, 3);
        ArgumentsTest lease = new ArgumentsTest("lease", allWeeks, (x, a) -> x.lease(a[0], a[1]));
        lease.index(0, 0, 5, 2, 3);
        lease.index(1, 0, 9, 2, 3);
        ArgumentsTest seriesOf = new ArgumentsTest("seriesOf", allWeeks, (x, a) -> x.seriesOf(a[0], a[1]));
        seriesOf.index(0, 0, 5, 2, 3);
        seriesOf.range(1, 0, 11, 2, 3);
        ArgumentsTest earns = new ArgumentsTest("earns", allWeeks, (x, a) -> number(x.earns(a[0])));
        earns.index(0, 0, 5, 2);
    }

    private static void flights() {
        Call fly = (x, a) -> x.fly(a[0], a[1], a[2]);
        ArgumentsTest allWeeks = new ArgumentsTest("fly in all weeks", () -> Scenes.given(0, 19), fly);
        allWeeks.index(0, 0, 5, 2, 10, 30);
        allWeeks.range(1, 0, 19, 2, 10, 30);
        allWeeks.range(2, 0, 71, 2, 10, 30);
        new ArgumentsTest("fly in some weeks", () -> Scenes.given(3, 12), fly).range(1, 3, 12, 2, 10, 30);
        new ArgumentsTest("fly in the week 0", () -> Scenes.given(0, 0), fly).range(1, 0, 0, 2, 0, 30);
        new ArgumentsTest("fly in the week 19", () -> Scenes.given(19, 19), fly).range(1, 19, 19, 2, 19, 30);
        Scene givenBack = () -> {
            Real x = Scenes.given(3, 12);
            x.giveBack(2, 8);
            return x;
        };
        new ArgumentsTest("fly in the weeks that are left", givenBack, fly).range(1, 3, 7, 2, 5, 30);
        ArgumentsTest close = new ArgumentsTest("close", Scenes::withRules, (x, a) -> number(x.close(a[0], a[1], a[2])));
        close.index(0, 0, 3, 1, 2, 3);
        close.range(1, 0, 6, 1, 2, 3);
        close.range(2, 0, 19, 1, 2, 3);
    }

    private static void loads() {
        ArgumentsTest load = new ArgumentsTest("load", Scenes::withRules, (x, a) -> x.load(a[0], a[1], a[2], a[3], a[4], a[5]));
        load.index(0, 0, 3, 1, 2, 3, 4, 10, 40);
        load.range(1, 0, 2, 1, 2, 3, 4, 10, 40);
        load.range(2, 0, 6, 1, 2, 3, 4, 10, 40);
        load.range(3, 0, 19, 1, 2, 3, 4, 10, 40);
        load.range(4, 0, 71, 1, 2, 3, 4, 10, 71);
        load.range(4, 0, 40, 1, 2, 3, 4, 10, 40);
        load.range(5, 0, 71, 1, 2, 3, 4, 0, 40);
        load.range(5, 10, 71, 1, 2, 3, 4, 10, 40);
        load.range(5, 71, 71, 1, 2, 3, 4, 71, 71);
        ArgumentsTest worst = new ArgumentsTest("worst", Scenes::withRules, (x, a) -> x.worst(a[0], a[1], a[2], a[3]));
        worst.index(0, 0, 3, 1, 2, 3, 4);
        worst.index(1, 0, 2, 1, 2, 3, 4);
        worst.range(2, 0, 6, 1, 2, 3, 4);
        worst.range(3, 0, 19, 1, 2, 3, 4);
    }

    private static void questions() {
        new ArgumentsTest("noise", Scenes::withRules, (x, a) -> x.noise(a[0])).index(0, 0, 3, 1);
        ArgumentsTest rightOf = new ArgumentsTest("rightOf", Scenes::withRights, (x, a) -> x.rightOf(a[0], a[1]));
        rightOf.index(0, 0, 1, 1, 2);
        rightOf.range(1, 0, 8, 1, 2);
        ArgumentsTest isNew = new ArgumentsTest("isNew", Scenes::withRules, (x, a) -> number(x.isNew(a[0], a[1])));
        isNew.index(0, 0, 9, 1, 2);
        isNew.index(1, 0, 3, 1, 2);
        new ArgumentsTest("count", Scenes::withRules, (x, a) -> x.count(a[0])).range(0, 0, 5, 1);
    }

    /** Where there is none at all, not even the number 0 is one. */
    private static void noneAtAll() {
        Real x = new Real();
        none(x, "revise", c -> c.revise(0, 0, 1));
        none(x, "worst", c -> c.worst(0, 0, 0, 0));
        none(x, "request with a right", c -> c.request(0, 0, 0, 0, 0, 0, 0, 0, 0));
        none(x, "rightOf", c -> c.rightOf(0, 0));
        none(x, "requestOf", c -> c.requestOf(0, 0));
        none(x, "ahead", c -> c.ahead(0));
        none(x, "accept", c -> number(c.accept(0)));
        none(x, "link", c -> {
            c.link(0, 1);
            return 0;
        });
        none(x, "giveBack", c -> c.giveBack(0, 0));
        none(x, "swap", c -> {
            c.swap(0, 1);
            return 0;
        });
        none(x, "lease", c -> c.lease(0, 0));
        none(x, "fly", c -> c.fly(0, 0, 0));
        none(x, "seriesOf", c -> c.seriesOf(0, 0));
        none(x, "earns", c -> number(c.earns(0)));
        Check.refused(x, "confer with none", Check.STATE, x::confer);
    }

    private static void none(Real x, String what, Step step) {
        Check.refused(x, what + " with none", Check.INDEX, () -> step.on(x));
    }
}
