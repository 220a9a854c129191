/**
 * Customers that go from station to station and wait there to be served,
 * and how many are where at what time.
 *
 * Nothing of a run is kept between calls: every question runs the network
 * anew, so that no change of the plan can leave an outdated answer behind.
 */
public final class QueueNetwork {
    public static final int BAD = -1;
    public static final int FULL = -2;

    private static final int STATIONS = 4;
    private static final int MOST_SERVERS = 3;
    private static final int RULES = 3;
    private static final int MOST_CUSTOMERS = 12;
    private static final int MOST_VISITS = 4;
    private static final int MOST_NEED = 30;
    private static final int LATEST_ARRIVAL = 100;
    private static final int LATEST_ASKED = 10000;
    private static final int ENGINES = 4;

    private static final int FIRST_JOINED = 0;
    private static final int LAST_JOINED = 1;

    private static final int UNSORTED_LIST = 0;
    private static final int SORTED_LIST = 1;
    private static final int HEAP = 2;

    private static final int ALL_VISITS = MOST_CUSTOMERS * MOST_VISITS;

    // Once all have arrived, somebody is served at every time until all have
    // left, so the needs together bound what can come after the last arrival.
    private static final int LATEST_EVENT = LATEST_ARRIVAL + ALL_VISITS * MOST_NEED;
    private static final int ALL_TIMES = LATEST_EVENT + 1;

    // One arrival for each customer and one end of service for each visit.
    private static final int ALL_EVENTS = MOST_CUSTOMERS + ALL_VISITS;

    // An event is one number, time * EVENTS_PER_TIME + mark, so that the order
    // of the numbers is the order in which the events happen: by time, then
    // ends of service before arrivals, then by customer.
    private static final int EVENTS_PER_TIME = 32;
    private static final int ARRIVAL_MARK = 16;

    private static final int NONE = -1;

    // The plan: what the caller has laid down.
    private final int[] serverCounts = new int[STATIONS];
    private final int[] rules = new int[STATIONS];
    private final int[] arrivals = new int[MOST_CUSTOMERS];
    private final int[] visitCounts = new int[MOST_CUSTOMERS];
    private final int[] visitStations = new int[ALL_VISITS];
    private final int[] visitNeeds = new int[ALL_VISITS];
    private int customers = 0;

    // What the last run found; only the visits and customers of the plan count.
    private final int[] joinTimes = new int[ALL_VISITS];
    private final int[] beginTimes = new int[ALL_VISITS];
    private final int[] leaveTimes = new int[MOST_CUSTOMERS];

    // What an earlier run found, to be compared with the last one.
    private final int[] otherJoinTimes = new int[ALL_VISITS];
    private final int[] otherBeginTimes = new int[ALL_VISITS];
    private final int[] otherLeaveTimes = new int[MOST_CUSTOMERS];

    // Where a run stands.
    private int now = 0;
    private final int[] currentVisits = new int[MOST_CUSTOMERS];
    private final int[] waitingAt = new int[MOST_CUSTOMERS];
    private final int[] freeServers = new int[STATIONS];

    // What is to come. A customer has at most one event to come, its arrival
    // or the end of its service. Three engines keep the events in a list, the
    // fourth keeps the marks of each time as bits in a calendar.
    private final int[] events = new int[MOST_CUSTOMERS];
    private final int[] calendar = new int[ALL_TIMES];
    private int eventCount = 0;

    public QueueNetwork() {
        for (int s = 0; s < STATIONS; s++) {
            serverCounts[s] = 1;
            rules[s] = FIRST_JOINED;
        }
    }

    public boolean station(int s, int servers, int rule) {
        if (!isStation(s) || servers < 1 || servers > MOST_SERVERS || rule < 0 || rule >= RULES) {
            return false;
        }
        serverCounts[s] = servers;
        rules[s] = rule;
        return true;
    }

    public int arrive(int time) {
        if (time < 0 || time > LATEST_ARRIVAL) {
            return BAD;
        }
        if (customers == MOST_CUSTOMERS) {
            return FULL;
        }
        int c = customers;
        arrivals[c] = time;
        visitCounts[c] = 0;
        customers = c + 1;
        return c;
    }

    public int visit(int c, int s, int need) {
        if (!isCustomer(c) || !isStation(s) || need < 1 || need > MOST_NEED) {
            return BAD;
        }
        if (visitCounts[c] == MOST_VISITS) {
            return FULL;
        }
        int v = visitIndex(c, visitCounts[c]);
        visitStations[v] = s;
        visitNeeds[v] = need;
        visitCounts[c]++;
        return visitCounts[c];
    }

    public int drop() {
        if (customers == 0) {
            return BAD;
        }
        customers--;
        return customers;
    }

    public int leaves(int engine, int c) {
        if (!isEngine(engine) || !isCustomer(c)) {
            return BAD;
        }
        run(engine);
        return leaveTimes[c];
    }

    public int joins(int c, int k) {
        if (!isVisit(c, k)) {
            return BAD;
        }
        run(UNSORTED_LIST);
        return joinTimes[visitIndex(c, k)];
    }

    public int begins(int c, int k) {
        if (!isVisit(c, k)) {
            return BAD;
        }
        run(UNSORTED_LIST);
        return beginTimes[visitIndex(c, k)];
    }

    public int at(int s, int t) {
        if (!isStation(s) || !isAskedTime(t)) {
            return BAD;
        }
        run(UNSORTED_LIST);
        return countPresent(s, t);
    }

    public int waits(int s, int t) {
        if (!isStation(s) || !isAskedTime(t)) {
            return BAD;
        }
        run(UNSORTED_LIST);
        return countWaiting(s, t);
    }

    public int area(int s, int end) {
        if (!isStation(s) || !isAskedTime(end)) {
            return BAD;
        }
        run(UNSORTED_LIST);
        return sumOfStaysBefore(s, end);
    }

    public int stays(int s) {
        if (!isStation(s)) {
            return BAD;
        }
        run(UNSORTED_LIST);
        return sumOfStaysBefore(s, ALL_TIMES);
    }

    public int busy(int s) {
        if (!isStation(s)) {
            return BAD;
        }
        run(UNSORTED_LIST);
        int times = 0;
        for (int t = 0; t < ALL_TIMES; t++) {
            if (countPresent(s, t) > countWaiting(s, t)) {
                times++;
            }
        }
        return times;
    }

    public int longest(int s) {
        if (!isStation(s)) {
            return BAD;
        }
        run(UNSORTED_LIST);
        int most = 0;
        for (int t = 0; t < ALL_TIMES; t++) {
            int waiting = countWaiting(s, t);
            if (waiting > most) {
                most = waiting;
            }
        }
        return most;
    }

    public int last() {
        run(UNSORTED_LIST);
        int latest = 0;
        for (int c = 0; c < customers; c++) {
            if (leaveTimes[c] > latest) {
                latest = leaveTimes[c];
            }
        }
        return latest;
    }

    public int order(int k) {
        if (!isCustomer(k)) {
            return BAD;
        }
        run(UNSORTED_LIST);
        int found = BAD;
        for (int c = 0; c < customers; c++) {
            if (countLeavingBefore(c) == k) {
                found = c;
            }
        }
        return found;
    }

    public boolean agree(int engine, int other) {
        if (!isEngine(engine) || !isEngine(other)) {
            return false;
        }
        run(other);
        keepAsOther();
        run(engine);
        return isSameAsOther();
    }

    private static boolean isStation(int s) {
        return s >= 0 && s < STATIONS;
    }

    private static boolean isEngine(int engine) {
        return engine >= 0 && engine < ENGINES;
    }

    private static boolean isAskedTime(int t) {
        return t >= 0 && t <= LATEST_ASKED;
    }

    private boolean isCustomer(int c) {
        return c >= 0 && c < customers;
    }

    private boolean isVisit(int c, int k) {
        return isCustomer(c) && k >= 0 && k < visitCounts[c];
    }

    private static int visitIndex(int c, int k) {
        return c * MOST_VISITS + k;
    }

    private void run(int engine) {
        startRun(engine);
        for (int i = 0; i < ALL_EVENTS && eventCount > 0; i++) {
            now = firstEvent(engine) / EVENTS_PER_TIME;
            takeEventsOfNow(engine);
            for (int s = 0; s < STATIONS; s++) {
                fillServers(engine, s);
            }
        }
    }

    private void startRun(int engine) {
        now = 0;
        eventCount = 0;
        for (int t = 0; t < ALL_TIMES; t++) {
            calendar[t] = 0;
        }
        for (int s = 0; s < STATIONS; s++) {
            freeServers[s] = serverCounts[s];
        }
        for (int c = 0; c < customers; c++) {
            currentVisits[c] = visitIndex(c, 0);
            waitingAt[c] = NONE;
            addEvent(engine, arrivals[c] * EVENTS_PER_TIME + ARRIVAL_MARK + c);
        }
    }

    private void takeEventsOfNow(int engine) {
        // No need is 0, so what happens now adds no further event of now.
        for (int i = 0; i < MOST_CUSTOMERS && eventCount > 0; i++) {
            int event = firstEvent(engine);
            if (event / EVENTS_PER_TIME != now) {
                break;
            }
            removeFirstEvent(engine);
            happen(event % EVENTS_PER_TIME);
        }
    }

    private void happen(int mark) {
        int c = mark % ARRIVAL_MARK;
        if (mark < ARRIVAL_MARK) {
            freeServers[visitStations[currentVisits[c]]]++;
            currentVisits[c]++;
        }
        int v = currentVisits[c];
        if (v == visitIndex(c, visitCounts[c])) {
            leaveTimes[c] = now;
        } else {
            joinTimes[v] = now;
            waitingAt[c] = visitStations[v];
        }
    }

    private void fillServers(int engine, int s) {
        for (int i = 0; i < MOST_SERVERS && freeServers[s] > 0; i++) {
            int c = nextToServe(s);
            if (c == NONE) {
                break;
            }
            int v = currentVisits[c];
            waitingAt[c] = NONE;
            freeServers[s]--;
            beginTimes[v] = now;
            addEvent(engine, (now + visitNeeds[v]) * EVENTS_PER_TIME + c);
        }
    }

    private int nextToServe(int s) {
        int best = NONE;
        for (int c = 0; c < customers; c++) {
            if (waitingAt[c] == s && (best == NONE || goesBefore(rules[s], c, best))) {
                best = c;
            }
        }
        return best;
    }

    // The customer c has the greater number of the two, so by every rule but
    // LAST_JOINED it must be strictly better to go first.
    private boolean goesBefore(int rule, int c, int best) {
        int v = currentVisits[c];
        int w = currentVisits[best];
        if (rule == LAST_JOINED) {
            return joinTimes[v] >= joinTimes[w];
        }
        if (rule == FIRST_JOINED || visitNeeds[v] == visitNeeds[w]) {
            return joinTimes[v] < joinTimes[w];
        }
        return visitNeeds[v] < visitNeeds[w];
    }

    private void addEvent(int engine, int event) {
        if (engine == UNSORTED_LIST) {
            events[eventCount] = event;
        } else if (engine == SORTED_LIST) {
            addToSortedList(event);
        } else if (engine == HEAP) {
            addToHeap(event);
        } else {
            calendar[event / EVENTS_PER_TIME] |= 1 << (event % EVENTS_PER_TIME);
        }
        eventCount++;
    }

    // Asked only while there is an event to come.
    private int firstEvent(int engine) {
        if (engine == UNSORTED_LIST) {
            return events[placeOfLeast()];
        }
        if (engine == SORTED_LIST) {
            return events[eventCount - 1];
        }
        if (engine == HEAP) {
            return events[0];
        }
        return firstInCalendar();
    }

    // Asked only while there is an event to come.
    private void removeFirstEvent(int engine) {
        if (engine == UNSORTED_LIST) {
            events[placeOfLeast()] = events[eventCount - 1];
        } else if (engine == HEAP) {
            removeTopOfHeap();
        } else if (engine != SORTED_LIST) {
            int event = firstInCalendar();
            calendar[event / EVENTS_PER_TIME] &= ~(1 << (event % EVENTS_PER_TIME));
        }
        eventCount--;
    }

    private int placeOfLeast() {
        int place = 0;
        for (int i = 1; i < eventCount; i++) {
            if (events[i] < events[place]) {
                place = i;
            }
        }
        return place;
    }

    // The list falls, so that the first event is taken off its end.
    private void addToSortedList(int event) {
        int place = eventCount;
        for (int i = eventCount - 1; i >= 0 && events[i] < event; i--) {
            events[i + 1] = events[i];
            place = i;
        }
        events[place] = event;
    }

    private void addToHeap(int event) {
        int place = eventCount;
        for (int i = 0; i < MOST_CUSTOMERS && place > 0; i++) {
            int parent = (place - 1) / 2;
            if (events[parent] < event) {
                break;
            }
            events[place] = events[parent];
            place = parent;
        }
        events[place] = event;
    }

    private void removeTopOfHeap() {
        int left = eventCount - 1;
        int moved = events[left];
        int place = 0;
        for (int i = 0; i < MOST_CUSTOMERS; i++) {
            int child = 2 * place + 1;
            if (child + 1 < left && events[child + 1] < events[child]) {
                child++;
            }
            if (child >= left || events[child] > moved) {
                break;
            }
            events[place] = events[child];
            place = child;
        }
        events[place] = moved;
    }

    // Nothing that is to come lies before now.
    private int firstInCalendar() {
        for (int t = now; t < ALL_TIMES; t++) {
            for (int mark = 0; mark < EVENTS_PER_TIME && calendar[t] != 0; mark++) {
                if ((calendar[t] >> mark & 1) == 1) {
                    return t * EVENTS_PER_TIME + mark;
                }
            }
        }
        return LATEST_EVENT * EVENTS_PER_TIME;
    }

    private int countPresent(int s, int t) {
        int count = 0;
        for (int c = 0; c < customers; c++) {
            for (int k = 0; k < visitCounts[c]; k++) {
                int v = visitIndex(c, k);
                if (visitStations[v] == s && joinTimes[v] <= t && endTime(v) > t) {
                    count++;
                }
            }
        }
        return count;
    }

    private int countWaiting(int s, int t) {
        int count = 0;
        for (int c = 0; c < customers; c++) {
            for (int k = 0; k < visitCounts[c]; k++) {
                int v = visitIndex(c, k);
                if (visitStations[v] == s && joinTimes[v] <= t && beginTimes[v] > t) {
                    count++;
                }
            }
        }
        return count;
    }

    private int sumOfStaysBefore(int s, int end) {
        int sum = 0;
        for (int c = 0; c < customers; c++) {
            for (int k = 0; k < visitCounts[c]; k++) {
                int v = visitIndex(c, k);
                if (visitStations[v] == s && joinTimes[v] < end) {
                    int until = endTime(v) < end ? endTime(v) : end;
                    sum += until - joinTimes[v];
                }
            }
        }
        return sum;
    }

    private int endTime(int v) {
        return beginTimes[v] + visitNeeds[v];
    }

    private int countLeavingBefore(int c) {
        int count = 0;
        for (int d = 0; d < customers; d++) {
            if (leaveTimes[d] < leaveTimes[c] || (leaveTimes[d] == leaveTimes[c] && d < c)) {
                count++;
            }
        }
        return count;
    }

    private void keepAsOther() {
        for (int v = 0; v < ALL_VISITS; v++) {
            otherJoinTimes[v] = joinTimes[v];
            otherBeginTimes[v] = beginTimes[v];
        }
        for (int c = 0; c < MOST_CUSTOMERS; c++) {
            otherLeaveTimes[c] = leaveTimes[c];
        }
    }

    private boolean isSameAsOther() {
        for (int c = 0; c < customers; c++) {
            if (leaveTimes[c] != otherLeaveTimes[c]) {
                return false;
            }
            for (int k = 0; k < visitCounts[c]; k++) {
                int v = visitIndex(c, k);
                if (joinTimes[v] != otherJoinTimes[v] || beginTimes[v] != otherBeginTimes[v]) {
                    return false;
                }
            }
        }
        return true;
    }
}
