/** Objects that the tests begin with. */
final class Scenes {
    private Scenes() {
    }

    /** A request for an arrival without a noise, in the first weeks. */
    static int ask(Conference x, int carrier, int airport, int weekday, int time, int weeks) {
        return x.request(carrier, airport, 0, weekday, time, 0, weeks - 1, 0, -1);
    }

    /** Three rules at each airport, that bar nothing. */
    static Real withRules() {
        Real x = new Real();
        for (int airport = 0; airport < 4; airport++) {
            for (int rule = 0; rule < 3; rule++) {
                x.declare(airport, rule, 2 + rule, 20);
            }
        }
        return x;
    }

    /** Two rights of carrier 2 for departures on weekday 3 at airport 1, at 30 in the weeks 4 to 12, with a noise of 5. */
    static Real withRights() {
        Real x = withRules();
        for (int i = 0; i < 2; i++) {
            x.request(2, 1, 1, 3, 30, 4, 12, 5, -1);
        }
        x.confer();
        for (int week = 4; week < 12; week++) {
            x.fly(0, week, 30);
            x.fly(1, week, 30);
        }
        x.end();
        return x;
    }

    /** Six requests that are ASKED, behind the two rights. */
    static Real asked() {
        Real x = withRights();
        for (int i = 0; i < 6; i++) {
            x.request(i, 0, i % 2, i, 30 + i, 0, 19, i, -1);
        }
        return x;
    }

    /** Six requests that are OFFERED. */
    static Real offered() {
        Real x = new Real();
        x.curfew(0, 30, 31);
        for (int i = 0; i < 6; i++) {
            ask(x, i, 0, i, 30, 5);
        }
        x.confer();
        return x;
    }

    /** Six series at airport 0, of the carriers 0 to 5, on the weekdays 0 to 5 at 30, all in the same weeks. */
    static Real given(int first, int last) {
        Real x = new Real();
        for (int i = 0; i < 6; i++) {
            x.request(i, 0, i % 2, i, 30, first, last, 1, -1);
        }
        x.confer();
        return x;
    }

    /** 60 series at airport 0 on weekday 0 at 30, of one carrier each six, with the weeks 0 to 4. */
    static Real full() {
        Real x = new Real();
        for (int i = 0; i < 60; i++) {
            ask(x, i % 10, 0, 0, 30, 5);
        }
        x.confer();
        return x;
    }
}
