/** The calls of the face, so that the class and the model can be driven and asked in one way. */
interface Conference {
    int declare(int airport, int kind, int length, int most);

    int revise(int airport, int rule, int most);

    void curfew(int airport, int from, int to);

    int quota(int airport, int quota);

    int merge(int carrier, int other);

    int request(int carrier, int airport, int kind, int weekday, int time, int first, int last, int noise, int right);

    void link(int request, int other);

    int confer();

    boolean accept(int request);

    int giveBack(int series, int week);

    void swap(int series, int other);

    int lease(int series, int carrier);

    int fly(int series, int week, int time);

    boolean close(int airport, int weekday, int week);

    int end();

    int season();

    int load(int airport, int kind, int weekday, int week, int from, int to);

    int worst(int airport, int rule, int weekday, int week);

    int noise(int airport);

    int requestOf(int request, int what);

    int ahead(int request);

    int seriesOf(int series, int what);

    boolean earns(int series);

    int rights();

    int rightOf(int right, int what);

    boolean isNew(int carrier, int airport);

    int count(int what);
}
