public final class SlotConference {
    public static final int NONE = -1;
    public static final int ARRIVAL = 0, DEPARTURE = 1, EITHER = 2;
    public static final int HISTORIC = 0, CHANGED = 1, NEW = 2, OTHER = 3;
    public static final int ASKED = 0, GIVEN = 1, OFFERED = 2, WAITING = 3;

    private static final int AIRPORTS = 4, CARRIERS = 10, WEEKS = 20, WEEKDAYS = 7, TIMES = 72;
    private static final int MAX_RULES = 6, MAX_LENGTH = 6, MAX_MOST = 20;
    private static final int MAX_QUOTA = 9999, MAX_NOISE = 9, MAX_REQUESTS = 60, LAST_SEASON = 20;
    private static final int FIRST_TIME_OF_DAY = 18, LAST_TIME_OF_DAY = 65;
    private static final int FITS = 0, CURFEW_BARS = 1, QUOTA_BARS = 2, RULES_BAR = 10;
    private static final int FARTHEST_OFFER = 3, PUNCTUAL = 2, MOST_OFF = 3;
    private static final int LEAST_WEEKS = 5, NEW_BELOW = 3;

    private final Airport[] airports = new Airport[AIRPORTS];
    private final int[] groups = new int[CARRIERS];
    private final Request[] requests = new Request[MAX_REQUESTS];
    private final Series[] series = new Series[MAX_REQUESTS];
    private final Right[] rights = new Right[MAX_REQUESTS];
    private final int[] queue = new int[MAX_REQUESTS];
    private final int[] order = new int[MAX_REQUESTS];
    private final int[] newOnes = new int[MAX_REQUESTS];
    private final int[] otherOnes = new int[MAX_REQUESTS];
    private final int[] slotsOfWeek = new int[WEEKS];
    private int requestCount, seriesCount, rightCount, queueCount, season;

    /** Every row that any later call needs is made here and used again, so that no call makes objects. */
    public SlotConference() {
        for (int i = 0; i < airports.length; i++) {
            airports[i] = new Airport();
        }
        for (int i = 0; i < groups.length; i++) {
            groups[i] = i;
        }
        for (int i = 0; i < requests.length; i++) {
            requests[i] = new Request();
        }
        for (int i = 0; i < series.length; i++) {
            series[i] = new Series();
        }
        for (int i = 0; i < rights.length; i++) {
            rights[i] = new Right();
        }
    }

    // ---- airports

    public int declare(int airport, int kind, int length, int most)
            throws IndexOutOfBoundsException, IllegalArgumentException, IllegalStateException {
        Airport place = airportAt(airport);
        requireKindOrEither(kind);
        requireRange(length, 1, MAX_LENGTH);
        requireRange(most, 0, MAX_MOST);
        if (place.ruleCount >= MAX_RULES) {
            throw new IllegalStateException("The airport has all its rules.");
        }
        int number = place.ruleCount;
        place.ruleCount = number + 1;
        Rule made = place.ruleAt(number);
        made.kind = kind;
        made.length = length;
        made.most = most;
        return number;
    }

    public int revise(int airport, int rule, int most)
            throws IndexOutOfBoundsException, IllegalArgumentException {
        Rule revised = airportAt(airport).ruleAt(rule);
        requireRange(most, 0, MAX_MOST);
        int before = revised.most;
        revised.most = most;
        return before;
    }

    public void curfew(int airport, int from, int to)
            throws IndexOutOfBoundsException, IllegalArgumentException {
        Airport place = airportAt(airport);
        requireRange(from, 0, TIMES);
        requireRange(to, from, TIMES);
        place.curfewFrom = from;
        place.curfewTo = to;
    }

    public int quota(int airport, int quota)
            throws IndexOutOfBoundsException, IllegalArgumentException {
        Airport place = airportAt(airport);
        requireRange(quota, 0, MAX_QUOTA);
        int before = place.quota;
        place.quota = quota;
        return before;
    }

    public int merge(int carrier, int other)
            throws IndexOutOfBoundsException, IllegalStateException {
        int kept = groupAt(carrier);
        int left = groupAt(other);
        if (kept == left) {
            throw new IllegalStateException("Both carriers are in one group.");
        }
        int members = 0;
        for (int i = 0; i < groups.length; i++) {
            if (groups[i] == left) {
                groups[i] = kept;
            }
            if (groups[i] == kept) {
                members++;
            }
        }
        return members;
    }

    // ---- requests

    public int request(int carrier, int airport, int kind, int weekday, int time, int first, int last, int noise, int right)
            throws IndexOutOfBoundsException, IllegalArgumentException, IllegalStateException {
        groupAt(carrier);
        airportAt(airport);
        Right claimed = right == NONE ? null : rightAt(right);
        requireSlot(kind, weekday, time, first, last, noise);
        if (requestCount >= MAX_REQUESTS) {
            throw new IllegalStateException("There are all requests of a season.");
        }
        if (claimed != null && !claimed.mayBeClaimed(carrier, airport, kind, weekday)) {
            throw new IllegalStateException("The right can not be claimed so.");
        }
        int number = requestCount;
        requestCount = number + 1;
        Request made = requestAt(number);
        made.airport = airport;
        made.kind = kind;
        made.weekday = weekday;
        made.time = time;
        made.first = first;
        made.last = last;
        made.noise = noise;
        made.ask(carrier, right);
        if (claimed != null) {
            claimed.claim = number;
        }
        return number;
    }

    public void link(int request, int other)
            throws IndexOutOfBoundsException, IllegalArgumentException, IllegalStateException {
        Request one = requestAt(request);
        Request two = requestAt(other);
        if (request == other) {
            throw new IllegalArgumentException("Both requests are the same.");
        }
        if (!one.mayBeLinked() || !two.mayBeLinked()) {
            throw new IllegalStateException("A request is linked or not asked.");
        }
        one.partner = other;
        two.partner = request;
    }

    public int confer()
            throws IllegalStateException {
        if (requestsThatAre(ASKED) == 0) {
            throw new IllegalStateException("No request is asked.");
        }
        sortAllAsked();
        int ordered = putAskedInOrder();
        int given = 0;
        for (int i = 0; i < ordered && i < order.length; i++) {
            Request next = requestAt(order[i]);
            // Its partner may have come first and have decided for both.
            if (next.state == ASKED) {
                given += next.partner == NONE ? decideAlone(order[i]) : decidePair(order[i], next.partner);
            }
        }
        return given;
    }

    public boolean accept(int request)
            throws IndexOutOfBoundsException, IllegalStateException {
        Request accepted = requestAt(request);
        if (accepted.state != OFFERED) {
            throw new IllegalStateException("The request is not offered a time.");
        }
        int time = accepted.offer;
        if (reasonAgainst(accepted, time) == FITS) {
            give(request, time);
            return true;
        }
        accepted.state = WAITING;
        accepted.offer = NONE;
        return false;
    }

    // ---- series

    public int giveBack(int series, int week)
            throws IndexOutOfBoundsException, IllegalArgumentException, IllegalStateException {
        Series returned = seriesAt(series);
        requireRange(week, 0, WEEKS - 1);
        if (returned.gone || returned.last < week) {
            throw new IllegalStateException("The series is gone or over by then.");
        }
        if (week <= returned.first) {
            returned.gone = true;
        } else {
            returned.last = week - 1;
        }
        return serveQueueAt(returned.airport);
    }

    public void swap(int series, int other)
            throws IndexOutOfBoundsException, IllegalArgumentException, IllegalStateException {
        Series one = seriesAt(series);
        Series two = seriesAt(other);
        if (series == other) {
            throw new IllegalArgumentException("Both series are the same.");
        }
        if (one.gone || two.gone || one.airport != two.airport) {
            throw new IllegalStateException("A series is gone or they are of two airports.");
        }
        int holder = one.holder;
        int user = one.user;
        one.holder = two.holder;
        one.user = two.user;
        two.holder = holder;
        two.user = user;
    }

    public int lease(int series, int carrier)
            throws IndexOutOfBoundsException, IllegalStateException {
        Series leased = seriesAt(series);
        groupAt(carrier);
        if (leased.gone) {
            throw new IllegalStateException("The series is gone.");
        }
        int before = leased.user;
        leased.user = carrier;
        return before;
    }

    public int fly(int series, int week, int time)
            throws IndexOutOfBoundsException, IllegalArgumentException, IllegalStateException {
        Series flown = seriesAt(series);
        requireRange(week, flown.first, flown.last);
        requireRange(time, 0, TIMES - 1);
        int bit = weeksFromTo(week, week);
        if (flown.gone || (flown.flownWeeks & bit) != 0) {
            throw new IllegalStateException("The series is gone or had its flight.");
        }
        flown.flownWeeks |= bit;
        if (Math.abs(time - flown.time) > PUNCTUAL) {
            flown.off++;
        }
        // Those that wait are not looked at here: only what is given back sets others free.
        if (flown.off >= MOST_OFF) {
            flown.gone = true;
        }
        return flown.off;
    }

    public boolean close(int airport, int weekday, int week)
            throws IndexOutOfBoundsException, IllegalArgumentException {
        Airport place = airportAt(airport);
        requireRange(weekday, 0, WEEKDAYS - 1);
        requireRange(week, 0, WEEKS - 1);
        int bit = weeksFromTo(week, week);
        boolean wasOpen = (place.closedWeeksOn(weekday) & bit) == 0;
        place.closeWeeksOn(weekday, bit);
        return wasOpen;
    }

    public int end()
            throws IllegalStateException {
        if (season >= LAST_SEASON) {
            throw new IllegalStateException("It is the last season.");
        }
        rightCount = turnSeriesIntoRights();
        requestCount = 0;
        seriesCount = 0;
        queueCount = 0;
        for (int i = 0; i < airports.length; i++) {
            airportAt(i).openAllDays();
        }
        season++;
        return rightCount;
    }

    // ---- questions

    public int season() {
        return season;
    }

    public int load(int airport, int kind, int weekday, int week, int from, int to)
            throws IndexOutOfBoundsException, IllegalArgumentException {
        airportAt(airport);
        requireKindOrEither(kind);
        requireRange(weekday, 0, WEEKDAYS - 1);
        requireRange(week, 0, WEEKS - 1);
        requireRange(from, 0, TIMES - 1);
        requireRange(to, from, TIMES - 1);
        return slotsBetween(airport, kind, weekday, week, from, to);
    }

    public int worst(int airport, int rule, int weekday, int week)
            throws IndexOutOfBoundsException, IllegalArgumentException {
        Rule asked = airportAt(airport).ruleAt(rule);
        requireRange(weekday, 0, WEEKDAYS - 1);
        requireRange(week, 0, WEEKS - 1);
        int greatest = 0;
        for (int from = 0; from <= TIMES - asked.length; from++) {
            int to = from + asked.length - 1;
            greatest = Math.max(greatest, slotsBetween(airport, asked.kind, weekday, week, from, to));
        }
        return greatest;
    }

    public int noise(int airport)
            throws IndexOutOfBoundsException {
        airportAt(airport);
        return noiseByNight(airport);
    }

    public int requestOf(int request, int what)
            throws IndexOutOfBoundsException, IllegalArgumentException {
        Request told = requestAt(request);
        switch (what) {
            case 0: return told.state;
            case 1: return told.state == ASKED ? sortNow(told) : told.sort;
            case 2: return told.series;
            case 3: return told.offer;
            case 4: return told.partner;
            case 5: return told.state == GIVEN ? FITS : reasonAgainst(told, told.time);
            default: throw new IllegalArgumentException("Nothing of a request is told by that number.");
        }
    }

    public int ahead(int request)
            throws IndexOutOfBoundsException {
        Request asked = requestAt(request);
        if (!asked.isInQueue()) {
            return NONE;
        }
        int before = 0;
        for (int i = 0; i < queueCount && i < queue.length && queue[i] != request; i++) {
            Request each = requestAt(queue[i]);
            if (each.isInQueue() && each.airport == asked.airport) {
                before++;
            }
        }
        return before;
    }

    public int seriesOf(int series, int what)
            throws IndexOutOfBoundsException, IllegalArgumentException {
        Series told = seriesAt(series);
        switch (what) {
            case 0: return told.holder;
            case 1: return told.user;
            case 2: return told.airport;
            case 3: return told.kind;
            case 4: return told.weekday;
            case 5: return told.time;
            case 6: return told.first;
            case 7: return told.last;
            case 8: return told.request;
            case 9: return weeksUsed(told);
            case 10: return told.off;
            case 11: return told.gone ? 1 : 0;
            default: throw new IllegalArgumentException("Nothing of a series is told by that number.");
        }
    }

    public boolean earns(int series)
            throws IndexOutOfBoundsException {
        return earnsRight(seriesAt(series));
    }

    public int rights() {
        return rightCount;
    }

    public int rightOf(int right, int what)
            throws IndexOutOfBoundsException, IllegalArgumentException {
        Right told = rightAt(right);
        switch (what) {
            case 0: return told.carrier;
            case 1: return told.airport;
            case 2: return told.kind;
            case 3: return told.weekday;
            case 4: return told.time;
            case 5: return told.first;
            case 6: return told.last;
            case 7: return told.noise;
            case 8: return told.claim;
            default: throw new IllegalArgumentException("Nothing of a right is told by that number.");
        }
    }

    public boolean isNew(int carrier, int airport)
            throws IndexOutOfBoundsException {
        int group = groupAt(carrier);
        airportAt(airport);
        return isGroupNew(group, airport);
    }

    public int count(int what)
            throws IllegalArgumentException {
        switch (what) {
            case 0: return requestCount;
            case 1: return requestsThatAre(GIVEN);
            case 2: return requestsThatAre(OFFERED);
            case 3: return requestsThatAre(WAITING);
            case 4: return seriesCount;
            case 5: return seriesThatAreGone();
            default: throw new IllegalArgumentException("Nothing is counted by that number.");
        }
    }

    // ---- arguments and rows

    private static void requireRange(int value, int least, int most) {
        if (value < least || value > most) {
            throw new IllegalArgumentException("An argument is out of its range.");
        }
    }

    private static void requireKindOrEither(int kind) {
        requireRange(kind, ARRIVAL, EITHER);
    }

    private static void requireSlot(int kind, int weekday, int time, int first, int last, int noise) {
        requireRange(kind, ARRIVAL, DEPARTURE);
        requireRange(weekday, 0, WEEKDAYS - 1);
        requireRange(time, 0, TIMES - 1);
        requireRange(first, 0, WEEKS - 1);
        requireRange(last, first, WEEKS - 1);
        requireRange(noise, 0, MAX_NOISE);
    }

    private Airport airportAt(int airport) {
        if (airport < 0 || airport >= airports.length) {
            throw new IndexOutOfBoundsException("There is no such airport.");
        }
        return airports[airport];
    }

    private int groupAt(int carrier) {
        if (carrier < 0 || carrier >= groups.length) {
            throw new IndexOutOfBoundsException("There is no such carrier.");
        }
        return groups[carrier];
    }

    private Request requestAt(int request) {
        if (request < 0 || request >= requestCount || request >= requests.length) {
            throw new IndexOutOfBoundsException("There is no such request.");
        }
        return requests[request];
    }

    private Series seriesAt(int number) {
        if (number < 0 || number >= seriesCount || number >= series.length) {
            throw new IndexOutOfBoundsException("There is no such series.");
        }
        return series[number];
    }

    private Right rightAt(int right) {
        if (right < 0 || right >= rightCount || right >= rights.length) {
            throw new IndexOutOfBoundsException("There is no such right.");
        }
        return rights[right];
    }

    // ---- what fits

    private static boolean isByNight(int time) {
        return time < FIRST_TIME_OF_DAY || time > LAST_TIME_OF_DAY;
    }

    private static int weeksFromTo(int first, int last) {
        return ((1 << (last - first + 1)) - 1) << first;
    }

    private int reasonAgainst(Slot wanted, int time) {
        Airport place = airportAt(wanted.airport);
        if (place.bars(time)) {
            return CURFEW_BARS;
        }
        if (isByNight(time) && noiseByNight(wanted.airport) + wanted.wholeNoise() > place.quota) {
            return QUOTA_BARS;
        }
        for (int rule = 0; rule < place.ruleCount; rule++) {
            if (wouldBreak(place.ruleAt(rule), wanted, time)) {
                return RULES_BAR + rule;
            }
        }
        return FITS;
    }

    private boolean wouldBreak(Rule rule, Slot wanted, int time) {
        if (!rule.isFor(wanted.kind)) {
            return false;
        }
        int lastStart = Math.min(time, TIMES - rule.length);
        for (int start = Math.max(0, time - rule.length + 1); start <= lastStart; start++) {
            if (isWindowFull(rule, start, wanted)) {
                return true;
            }
        }
        return false;
    }

    private boolean isWindowFull(Rule rule, int start, Slot wanted) {
        if (rule.most < 1) {
            return true;
        }
        for (int week = 0; week < slotsOfWeek.length; week++) {
            slotsOfWeek[week] = 0;
        }
        for (int i = 0; i < seriesCount; i++) {
            Series each = seriesAt(i);
            boolean counts = each.isOn(wanted.airport, rule.kind, wanted.weekday)
                    && each.isBetween(start, start + rule.length - 1);
            for (int week = 0; counts && week < slotsOfWeek.length; week++) {
                if (each.lastsIn(week) && wanted.lastsIn(week)) {
                    slotsOfWeek[week]++;
                    if (slotsOfWeek[week] >= rule.most) {
                        return true;
                    }
                }
            }
        }
        return false;
    }

    private int slotsBetween(int airport, int kind, int weekday, int week, int from, int to) {
        int slots = 0;
        for (int i = 0; i < seriesCount; i++) {
            Series each = seriesAt(i);
            if (each.isOn(airport, kind, weekday) && each.lastsIn(week) && each.isBetween(from, to)) {
                slots++;
            }
        }
        return slots;
    }

    private int noiseByNight(int airport) {
        int all = 0;
        for (int i = 0; i < seriesCount; i++) {
            Series each = seriesAt(i);
            if (!each.gone && each.airport == airport && isByNight(each.time)) {
                all += each.wholeNoise();
            }
        }
        return all;
    }

    // ---- the conference

    private boolean isGroupNew(int group, int airport) {
        int held = 0;
        for (int i = 0; i < rightCount; i++) {
            Right each = rightAt(i);
            if (each.airport == airport && groupAt(each.carrier) == group) {
                held++;
            }
        }
        for (int i = 0; i < seriesCount; i++) {
            Series each = seriesAt(i);
            if (!each.gone && each.airport == airport && groupAt(each.holder) == group) {
                held++;
            }
        }
        return held < NEW_BELOW;
    }

    private int sortNow(Request asked) {
        if (asked.right != NONE) {
            return asked.isSameAs(rightAt(asked.right)) ? HISTORIC : CHANGED;
        }
        return isGroupNew(groupAt(asked.carrier), asked.airport) ? NEW : OTHER;
    }

    /** Done ahead of all giving, because a series that is given may make its carrier new no more. */
    private void sortAllAsked() {
        for (int i = 0; i < requestCount; i++) {
            Request each = requestAt(i);
            if (each.state == ASKED) {
                each.sort = sortNow(each);
            }
        }
    }

    private int putAskedInOrder() {
        int ordered = addAskedOf(HISTORIC, order, 0);
        ordered = addAskedOf(CHANGED, order, ordered);
        int fresh = addAskedOf(NEW, newOnes, 0);
        int others = addAskedOf(OTHER, otherOnes, 0);
        for (int i = 0; i < MAX_REQUESTS; i++) {
            if (i < fresh && ordered < order.length) {
                order[ordered] = newOnes[i];
                ordered++;
            }
            if (i < others && ordered < order.length) {
                order[ordered] = otherOnes[i];
                ordered++;
            }
        }
        return ordered;
    }

    private int addAskedOf(int sort, int[] row, int start) {
        int end = start;
        for (int i = 0; i < requestCount && end < row.length; i++) {
            Request each = requestAt(i);
            if (each.state == ASKED && each.sort == sort) {
                insertByWeeks(i, row, start, end);
                end++;
            }
        }
        return end;
    }

    /** Stops behind those for as many weeks, so that lower numbers stay ahead. */
    private void insertByWeeks(int request, int[] row, int start, int end) {
        int weeks = requestAt(request).weeks();
        int at = end;
        while (at > start && at < row.length && requestAt(row[at - 1]).weeks() < weeks) {
            row[at] = row[at - 1];
            at--;
        }
        if (at >= 0 && at < row.length) {
            row[at] = request;
        }
    }

    private int decideAlone(int request) {
        if (giveIfItFits(request)) {
            return 1;
        }
        Request refused = requestAt(request);
        refused.offer = timeToOffer(refused);
        refused.state = refused.offer == NONE ? WAITING : OFFERED;
        putInQueue(request);
        return 0;
    }

    private int decidePair(int request, int partner) {
        if (giveIfItFits(request)) {
            if (giveIfItFits(partner)) {
                return 2;
            }
            takeLatestSeriesBack();
        }
        requestAt(request).state = WAITING;
        requestAt(partner).state = WAITING;
        putInQueue(request);
        putInQueue(partner);
        return 0;
    }

    private int timeToOffer(Request refused) {
        for (int distance = 1; distance <= FARTHEST_OFFER; distance++) {
            int less = refused.time - distance;
            if (less >= 0 && reasonAgainst(refused, less) == FITS) {
                return less;
            }
            int more = refused.time + distance;
            if (more < TIMES && reasonAgainst(refused, more) == FITS) {
                return more;
            }
        }
        return NONE;
    }

    private boolean giveIfItFits(int request) {
        Request wanted = requestAt(request);
        if (reasonAgainst(wanted, wanted.time) != FITS) {
            return false;
        }
        give(request, wanted.time);
        return true;
    }

    private void give(int request, int time) {
        Request given = requestAt(request);
        int number = seriesCount;
        seriesCount = number + 1;
        seriesAt(number).begin(given, request, time);
        given.state = GIVEN;
        given.series = number;
        given.offer = NONE;
    }

    private void takeLatestSeriesBack() {
        int number = seriesCount - 1;
        requestAt(seriesAt(number).request).series = NONE;
        seriesCount = number;
    }

    private void putInQueue(int request) {
        if (queueCount < queue.length) {
            queue[queueCount] = request;
            queueCount++;
        }
    }

    /** Those that are given stay in the row of the queue, passed over: a place is never used twice in a season. */
    private int serveQueueAt(int airport) {
        int given = 0;
        for (int i = 0; i < queueCount && i < queue.length; i++) {
            Request each = requestAt(queue[i]);
            if (each.isInQueue() && each.airport == airport && each.partner == NONE && giveIfItFits(queue[i])) {
                given++;
            }
        }
        return given;
    }

    // ---- uses and counts

    private int weeksUsed(Series used) {
        int closedWeeks = airportAt(used.airport).closedWeeksOn(used.weekday);
        return Integer.bitCount((closedWeeks | used.flownWeeks) & weeksFromTo(used.first, used.last));
    }

    private boolean earnsRight(Series candidate) {
        int weeks = candidate.weeks();
        return !candidate.gone && weeks >= LEAST_WEEKS && weeksUsed(candidate) * 100 >= weeks * 80;
    }

    private int turnSeriesIntoRights() {
        int earned = 0;
        for (int i = 0; i < seriesCount && earned < rights.length; i++) {
            Series each = seriesAt(i);
            if (earnsRight(each)) {
                rights[earned].begin(each);
                earned++;
            }
        }
        return earned;
    }

    private int requestsThatAre(int state) {
        int found = 0;
        for (int i = 0; i < requestCount; i++) {
            if (requestAt(i).state == state) {
                found++;
            }
        }
        return found;
    }

    private int seriesThatAreGone() {
        int found = 0;
        for (int i = 0; i < seriesCount; i++) {
            if (seriesAt(i).gone) {
                found++;
            }
        }
        return found;
    }

    private static final class Rule {
        int kind, length, most;

        boolean isFor(int slotKind) {
            return kind == EITHER || kind == slotKind;
        }
    }

    private static final class Airport {
        final Rule[] rules = new Rule[MAX_RULES];
        final int[] closedWeeks = new int[WEEKDAYS];
        int ruleCount, curfewFrom, curfewTo;
        int quota = MAX_QUOTA;

        Airport() {
            for (int i = 0; i < rules.length; i++) {
                rules[i] = new Rule();
            }
        }

        Rule ruleAt(int rule) {
            if (rule < 0 || rule >= ruleCount || rule >= rules.length) {
                throw new IndexOutOfBoundsException("There is no such rule.");
            }
            return rules[rule];
        }

        boolean bars(int time) {
            return time >= curfewFrom && time < curfewTo;
        }

        int closedWeeksOn(int weekday) {
            return weekday >= 0 && weekday < closedWeeks.length ? closedWeeks[weekday] : 0;
        }

        void closeWeeksOn(int weekday, int weeks) {
            if (weekday >= 0 && weekday < closedWeeks.length) {
                closedWeeks[weekday] |= weeks;
            }
        }

        void openAllDays() {
            for (int i = 0; i < closedWeeks.length; i++) {
                closedWeeks[i] = 0;
            }
        }
    }

    private abstract static class Slot {
        int airport, kind, weekday, time, first, last, noise;

        int weeks() {
            return last - first + 1;
        }

        int wholeNoise() {
            return noise * weeks();
        }

        boolean lastsIn(int week) {
            return week >= first && week <= last;
        }

        boolean isSameAs(Slot other) {
            return time == other.time && first == other.first && last == other.last && noise == other.noise;
        }

        void copyFrom(Slot other) {
            airport = other.airport;
            kind = other.kind;
            weekday = other.weekday;
            time = other.time;
            first = other.first;
            last = other.last;
            noise = other.noise;
        }
    }

    private static final class Request extends Slot {
        int carrier, right, state, sort, series, offer, partner;

        void ask(int asker, int claimedRight) {
            carrier = asker;
            right = claimedRight;
            state = ASKED;
            sort = OTHER;
            series = NONE;
            offer = NONE;
            partner = NONE;
        }

        boolean mayBeLinked() {
            return partner == NONE && state == ASKED;
        }

        boolean isInQueue() {
            return state == OFFERED || state == WAITING;
        }
    }

    private static final class Series extends Slot {
        int request, holder, user, flownWeeks, off;
        boolean gone;

        void begin(Request given, int number, int givenTime) {
            copyFrom(given);
            time = givenTime;
            request = number;
            holder = given.carrier;
            user = given.carrier;
            flownWeeks = 0;
            off = 0;
            gone = false;
        }

        boolean isOn(int place, int slotKind, int day) {
            return !gone && airport == place && weekday == day && (slotKind == EITHER || kind == slotKind);
        }

        boolean isBetween(int from, int to) {
            return time >= from && time <= to;
        }
    }

    private static final class Right extends Slot {
        int carrier, claim;

        void begin(Series earned) {
            copyFrom(earned);
            carrier = earned.holder;
            claim = NONE;
        }

        boolean mayBeClaimed(int claimer, int place, int slotKind, int day) {
            return claim == NONE && carrier == claimer && airport == place && kind == slotKind && weekday == day;
        }
    }
}
