/** Everything that can be asked of a conference, as one text. */
final class All {
    private All() {
    }

    static String of(SlotConference x) {
        return of(new Real(x));
    }

    static String of(Conference x) {
        StringBuilder all = new StringBuilder();
        all.append("season ").append(x.season()).append(" counts");
        for (int what = 0; what <= 5; what++) {
            all.append(' ').append(x.count(what));
        }
        all.append('\n');
        requests(x, all);
        series(x, all);
        rights(x, all);
        airports(x, all);
        return all.toString();
    }

    private static void requests(Conference x, StringBuilder all) {
        for (int i = 0; i < x.count(0); i++) {
            all.append("request ").append(i).append(':');
            for (int what = 0; what <= 5; what++) {
                all.append(' ').append(x.requestOf(i, what));
            }
            all.append(" ahead ").append(x.ahead(i)).append('\n');
        }
    }

    private static void series(Conference x, StringBuilder all) {
        for (int i = 0; i < x.count(4); i++) {
            all.append("series ").append(i).append(':');
            for (int what = 0; what <= 11; what++) {
                all.append(' ').append(x.seriesOf(i, what));
            }
            all.append(" earns ").append(x.earns(i)).append('\n');
        }
    }

    private static void rights(Conference x, StringBuilder all) {
        for (int i = 0; i < x.rights(); i++) {
            all.append("right ").append(i).append(':');
            for (int what = 0; what <= 8; what++) {
                all.append(' ').append(x.rightOf(i, what));
            }
            all.append('\n');
        }
    }

    private static void airports(Conference x, StringBuilder all) {
        for (int airport = 0; airport < 4; airport++) {
            all.append("airport ").append(airport).append(": noise ").append(x.noise(airport)).append(" new");
            for (int carrier = 0; carrier < 10; carrier++) {
                all.append(x.isNew(carrier, airport) ? " 1" : " 0");
            }
            all.append(" loads");
            for (int week = 0; week < 20; week += 3) {
                for (int kind = 0; kind < 3; kind++) {
                    all.append(' ').append(x.load(airport, kind, week % 7, week, 0, 71));
                }
            }
            all.append('\n');
        }
    }
}
