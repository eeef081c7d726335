/** The class itself, behind the calls of the face. */
final class Plain implements Conference {
    private final SlotConference x = new SlotConference();

    public int declare(int airport, int kind, int length, int most) {
        return x.declare(airport, kind, length, most);
    }

    public int revise(int airport, int rule, int most) {
        return x.revise(airport, rule, most);
    }

    public void curfew(int airport, int from, int to) {
        x.curfew(airport, from, to);
    }

    public int quota(int airport, int quota) {
        return x.quota(airport, quota);
    }

    public int merge(int carrier, int other) {
        return x.merge(carrier, other);
    }

    public int request(int carrier, int airport, int kind, int weekday, int time, int first, int last, int noise, int right) {
        return x.request(carrier, airport, kind, weekday, time, first, last, noise, right);
    }

    public void link(int request, int other) {
        x.link(request, other);
    }

    public int confer() {
        return x.confer();
    }

    public boolean accept(int request) {
        return x.accept(request);
    }

    public int giveBack(int series, int week) {
        return x.giveBack(series, week);
    }

    public void swap(int series, int other) {
        x.swap(series, other);
    }

    public int lease(int series, int carrier) {
        return x.lease(series, carrier);
    }

    public int fly(int series, int week, int time) {
        return x.fly(series, week, time);
    }

    public boolean close(int airport, int weekday, int week) {
        return x.close(airport, weekday, week);
    }

    public int end() {
        return x.end();
    }

    public int season() {
        return x.season();
    }

    public int load(int airport, int kind, int weekday, int week, int from, int to) {
        return x.load(airport, kind, weekday, week, from, to);
    }

    public int worst(int airport, int rule, int weekday, int week) {
        return x.worst(airport, rule, weekday, week);
    }

    public int noise(int airport) {
        return x.noise(airport);
    }

    public int requestOf(int request, int what) {
        return x.requestOf(request, what);
    }

    public int ahead(int request) {
        return x.ahead(request);
    }

    public int seriesOf(int series, int what) {
        return x.seriesOf(series, what);
    }

    public boolean earns(int series) {
        return x.earns(series);
    }

    public int rights() {
        return x.rights();
    }

    public int rightOf(int right, int what) {
        return x.rightOf(right, what);
    }

    public boolean isNew(int carrier, int airport) {
        return x.isNew(carrier, airport);
    }

    public int count(int what) {
        return x.count(what);
    }
}
