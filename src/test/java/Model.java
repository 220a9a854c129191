import java.util.ArrayList;
import java.util.List;

/**
 * What the document asks, with no thought for speed: goes through the times one
 * by one, word for word as the document's "Terms" do, and answers every call of
 * the face from the times it found.
 */
final class Model {
    private static final class Visit {
        final int station;
        final int need;
        int joined = -1;
        int begun = -1;
        int left = -1;

        Visit(int station, int need) {
            this.station = station;
            this.need = need;
        }

        boolean isAt(int s, int t) {
            return station == s && joined <= t && left > t;
        }

        boolean waits(int s, int t) {
            return isAt(s, t) && begun > t;
        }
    }

    private static final class Customer {
        final int arrival;
        final List<Visit> visits = new ArrayList<>();
        int stage = 0;
        int left = -1;

        Customer(int arrival) {
            this.arrival = arrival;
        }

        Visit present() {
            return visits.get(stage);
        }

        void joinOrLeave(int t) {
            if (stage == visits.size()) {
                left = t;
            } else {
                present().joined = t;
            }
        }

        boolean isInside(int t) {
            return arrival <= t && left < 0;
        }
    }

    private static final int BAD = -1;
    private static final int FULL = -2;

    private final int[] servers = {1, 1, 1, 1};
    private final int[] rules = {0, 0, 0, 0};
    private final List<Customer> customers = new ArrayList<>();
    private boolean ran = false;

    // The calls of the face

    boolean station(int s, int count, int rule) {
        if (!isIn(s, 0, 3) || !isIn(count, 1, 3) || !isIn(rule, 0, 2)) {
            return false;
        }
        ran = false;
        servers[s] = count;
        rules[s] = rule;
        return true;
    }

    int arrive(int time) {
        if (!isIn(time, 0, 100)) {
            return BAD;
        }
        if (customers.size() == 12) {
            return FULL;
        }
        ran = false;
        customers.add(new Customer(time));
        return customers.size() - 1;
    }

    int visit(int c, int s, int need) {
        if (!isCustomer(c) || !isIn(s, 0, 3) || !isIn(need, 1, 30)) {
            return BAD;
        }
        List<Visit> visits = customers.get(c).visits;
        if (visits.size() == 4) {
            return FULL;
        }
        ran = false;
        visits.add(new Visit(s, need));
        return visits.size();
    }

    int drop() {
        if (customers.isEmpty()) {
            return BAD;
        }
        ran = false;
        customers.remove(customers.size() - 1);
        return customers.size();
    }

    int leaves(int engine, int c) {
        run();
        return isCustomer(c) && isIn(engine, 0, 3) ? customers.get(c).left : BAD;
    }

    int joins(int c, int k) {
        run();
        return isVisit(c, k) ? customers.get(c).visits.get(k).joined : BAD;
    }

    int begins(int c, int k) {
        run();
        return isVisit(c, k) ? customers.get(c).visits.get(k).begun : BAD;
    }

    int at(int s, int t) {
        run();
        return isIn(s, 0, 3) && isIn(t, 0, 10000) ? countAt(s, t) : BAD;
    }

    int waits(int s, int t) {
        run();
        return isIn(s, 0, 3) && isIn(t, 0, 10000) ? countWaits(s, t) : BAD;
    }

    int area(int s, int end) {
        run();
        if (!isIn(s, 0, 3) || !isIn(end, 0, 10000)) {
            return BAD;
        }
        // When the last one has left, nobody is anywhere.
        int until = Math.min(end, last());
        int sum = 0;
        for (int t = 0; t < until; t++) {
            sum += countAt(s, t);
        }
        return sum;
    }

    int stays(int s) {
        run();
        if (!isIn(s, 0, 3)) {
            return BAD;
        }
        int sum = 0;
        for (Customer c : customers) {
            for (Visit v : c.visits) {
                sum += v.station == s ? v.left - v.joined : 0;
            }
        }
        return sum;
    }

    int busy(int s) {
        run();
        if (!isIn(s, 0, 3)) {
            return BAD;
        }
        int until = last();
        int times = 0;
        for (int t = 0; t < until; t++) {
            times += countAt(s, t) > countWaits(s, t) ? 1 : 0;
        }
        return times;
    }

    int longest(int s) {
        run();
        if (!isIn(s, 0, 3)) {
            return BAD;
        }
        int until = last();
        int most = 0;
        for (int t = 0; t < until; t++) {
            most = Math.max(most, countWaits(s, t));
        }
        return most;
    }

    int last() {
        run();
        int latest = 0;
        for (Customer c : customers) {
            latest = Math.max(latest, c.left);
        }
        return latest;
    }

    int order(int k) {
        run();
        List<Customer> sorted = new ArrayList<>(customers);
        // The sort is stable, so those that leave together stay in the order
        // of their numbers.
        sorted.sort((a, b) -> a.left - b.left);
        return isCustomer(k) ? customers.indexOf(sorted.get(k)) : BAD;
    }

    /** No answer depends on the engine, so any two that there are find the same times. */
    boolean agree(int engine, int other) {
        return isIn(engine, 0, 3) && isIn(other, 0, 3);
    }

    int customers() {
        return customers.size();
    }

    private static boolean isIn(int value, int least, int greatest) {
        return value >= least && value <= greatest;
    }

    private boolean isCustomer(int c) {
        return isIn(c, 0, customers.size() - 1);
    }

    private boolean isVisit(int c, int k) {
        return isCustomer(c) && isIn(k, 0, customers.get(c).visits.size() - 1);
    }

    private int countAt(int s, int t) {
        int count = 0;
        for (Customer c : customers) {
            for (Visit v : c.visits) {
                count += v.isAt(s, t) ? 1 : 0;
            }
        }
        return count;
    }

    private int countWaits(int s, int t) {
        int count = 0;
        for (Customer c : customers) {
            for (Visit v : c.visits) {
                count += v.waits(s, t) ? 1 : 0;
            }
        }
        return count;
    }

    // What happens at every time

    private void run() {
        if (ran) {
            return;
        }
        ran = true;
        for (Customer c : customers) {
            c.stage = 0;
            c.left = -1;
            for (Visit v : c.visits) {
                v.joined = -1;
                v.begun = -1;
                v.left = -1;
            }
        }
        for (int t = 0; customers.stream().anyMatch(c -> c.left < 0); t++) {
            step(t);
        }
    }

    private void step(int t) {
        for (Customer c : customers) {
            if (c.arrival < t && c.isInside(t) && c.present().begun >= 0
                    && c.present().begun + c.present().need == t) {
                c.present().left = t;
                c.stage++;
                c.joinOrLeave(t);
            }
        }
        for (Customer c : customers) {
            if (c.arrival == t) {
                c.joinOrLeave(t);
            }
        }
        for (int s = 0; s < 4; s++) {
            while (served(s, t) < servers[s] && !waiting(s, t).isEmpty()) {
                next(s, t).present().begun = t;
            }
        }
    }

    private int served(int s, int t) {
        int count = 0;
        for (Customer c : customers) {
            if (c.isInside(t) && c.present().station == s && c.present().begun >= 0) {
                count++;
            }
        }
        return count;
    }

    private List<Customer> waiting(int s, int t) {
        List<Customer> found = new ArrayList<>();
        for (Customer c : customers) {
            if (c.isInside(t) && c.present().station == s && c.present().begun < 0) {
                found.add(c);
            }
        }
        return found;
    }

    private Customer next(int s, int t) {
        List<Customer> found = waiting(s, t);
        // The waiting stand in the order of their numbers and the sorts are
        // stable, so those that tie keep that order.
        found.sort((a, b) -> a.present().joined - b.present().joined);
        if (rules[s] == 2) {
            found.sort((a, b) -> a.present().need - b.present().need);
        }
        return found.get(rules[s] == 1 ? found.size() - 1 : 0);
    }
}
