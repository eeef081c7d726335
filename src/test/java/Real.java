import java.util.ArrayList;
import java.util.List;

/** The class with its calls counted, and with those kept by which another object can be made just like it. */
final class Real implements Conference {
    /** The document says nothing of an object that is called more often. */
    static final int MOST_CALLS = 512;

    private final Plain plain = new Plain();
    private final List<Step> told = new ArrayList<>();
    private Step latest;
    private int calls = 0;

    static Real behind(List<Step> steps) {
        Real made = new Real();
        for (Step step : steps) {
            step.on(made);
        }
        return made;
    }

    /** The calls that told the object something, without those that it refused. */
    List<Step> told() {
        return told;
    }

    Step latest() {
        return latest;
    }

    int callsLeft() {
        return MOST_CALLS - calls;
    }

    private int tells(Step step) {
        int got = asks(step);
        told.add(step);
        return got;
    }

    private int asks(Step step) {
        latest = step;
        calls++;
        if (calls == MOST_CALLS + 1) {
            Check.tell("a test calls one object more than " + MOST_CALLS + " times");
        }
        return step.on(plain);
    }

    public int declare(int airport, int kind, int length, int most) {
        return tells(c -> c.declare(airport, kind, length, most));
    }

    public int revise(int airport, int rule, int most) {
        return tells(c -> c.revise(airport, rule, most));
    }

    public void curfew(int airport, int from, int to) {
        tells(c -> {
            c.curfew(airport, from, to);
            return 0;
        });
    }

    public int quota(int airport, int quota) {
        return tells(c -> c.quota(airport, quota));
    }

    public int merge(int carrier, int other) {
        return tells(c -> c.merge(carrier, other));
    }

    public int request(int carrier, int airport, int kind, int weekday, int time, int first, int last, int noise, int right) {
        return tells(c -> c.request(carrier, airport, kind, weekday, time, first, last, noise, right));
    }

    public void link(int request, int other) {
        tells(c -> {
            c.link(request, other);
            return 0;
        });
    }

    public int confer() {
        return tells(Conference::confer);
    }

    public boolean accept(int request) {
        return tells(c -> c.accept(request) ? 1 : 0) == 1;
    }

    public int giveBack(int series, int week) {
        return tells(c -> c.giveBack(series, week));
    }

    public void swap(int series, int other) {
        tells(c -> {
            c.swap(series, other);
            return 0;
        });
    }

    public int lease(int series, int carrier) {
        return tells(c -> c.lease(series, carrier));
    }

    public int fly(int series, int week, int time) {
        return tells(c -> c.fly(series, week, time));
    }

    public boolean close(int airport, int weekday, int week) {
        return tells(c -> c.close(airport, weekday, week) ? 1 : 0) == 1;
    }

    public int end() {
        return tells(Conference::end);
    }

    public int season() {
        return asks(Conference::season);
    }

    public int load(int airport, int kind, int weekday, int week, int from, int to) {
        return asks(c -> c.load(airport, kind, weekday, week, from, to));
    }

    public int worst(int airport, int rule, int weekday, int week) {
        return asks(c -> c.worst(airport, rule, weekday, week));
    }

    public int noise(int airport) {
        return asks(c -> c.noise(airport));
    }

    public int requestOf(int request, int what) {
        return asks(c -> c.requestOf(request, what));
    }

    public int ahead(int request) {
        return asks(c -> c.ahead(request));
    }

    public int seriesOf(int series, int what) {
        return asks(c -> c.seriesOf(series, what));
    }

    public boolean earns(int series) {
        return asks(c -> c.earns(series) ? 1 : 0) == 1;
    }

    public int rights() {
        return asks(Conference::rights);
    }

    public int rightOf(int right, int what) {
        return asks(c -> c.rightOf(right, what));
    }

    public boolean isNew(int carrier, int airport) {
        return asks(c -> c.isNew(carrier, airport) ? 1 : 0) == 1;
    }

    public int count(int what) {
        return asks(c -> c.count(what));
    }
}
