import java.util.ArrayList;
import java.util.List;

/** Goes through the times one by one, word for word as the document's "Terms" do. */
final class Model {
    static final class Visit {
        final int station;
        final int need;
        int joined = -1;
        int begun = -1;
        int left = -1;

        Visit(int station, int need) {
            this.station = station;
            this.need = need;
        }

        boolean isAt(int s, int t) {
            return station == s && joined <= t && left > t;
        }

        boolean waits(int s, int t) {
            return isAt(s, t) && begun > t;
        }
    }

    static final class Customer {
        final int arrival;
        final List<Visit> visits = new ArrayList<>();
        int stage = 0;
        int left = -1;

        Customer(int arrival) {
            this.arrival = arrival;
        }

        Visit present() {
            return visits.get(stage);
        }

        void joinOrLeave(int t) {
            if (stage == visits.size()) {
                left = t;
            } else {
                present().joined = t;
            }
        }

        boolean isInside(int t) {
            return arrival <= t && left < 0;
        }
    }

    final int[] servers = {1, 1, 1, 1};
    final int[] rules = {0, 0, 0, 0};
    final List<Customer> customers = new ArrayList<>();

    void run() {
        for (Customer c : customers) {
            c.stage = 0;
            c.left = -1;
            for (Visit v : c.visits) {
                v.joined = -1;
                v.begun = -1;
                v.left = -1;
            }
        }
        for (int t = 0; customers.stream().anyMatch(c -> c.left < 0); t++) {
            step(t);
        }
    }

    private void step(int t) {
        for (Customer c : customers) {
            if (c.arrival < t && c.isInside(t) && c.present().begun >= 0
                    && c.present().begun + c.present().need == t) {
                c.present().left = t;
                c.stage++;
                c.joinOrLeave(t);
            }
        }
        for (Customer c : customers) {
            if (c.arrival == t) {
                c.joinOrLeave(t);
            }
        }
        for (int s = 0; s < 4; s++) {
            while (served(s, t) < servers[s] && !waiting(s, t).isEmpty()) {
                next(s, t).present().begun = t;
            }
        }
    }

    private int served(int s, int t) {
        int count = 0;
        for (Customer c : customers) {
            if (c.isInside(t) && c.present().station == s && c.present().begun >= 0) {
                count++;
            }
        }
        return count;
    }

    private List<Customer> waiting(int s, int t) {
        List<Customer> found = new ArrayList<>();
        for (Customer c : customers) {
            if (c.isInside(t) && c.present().station == s && c.present().begun < 0) {
                found.add(c);
            }
        }
        return found;
    }

    private Customer next(int s, int t) {
        List<Customer> found = waiting(s, t);
        // The waiting stand in the order of their numbers and the sorts are
        // stable, so those that tie keep that order.
        found.sort((a, b) -> a.present().joined - b.present().joined);
        if (rules[s] == 2) {
            found.sort((a, b) -> a.present().need - b.present().need);
        }
        return found.get(rules[s] == 1 ? found.size() - 1 : 0);
    }

    List<Visit> visits() {
        List<Visit> all = new ArrayList<>();
        for (Customer c : customers) {
            all.addAll(c.visits);
        }
        return all;
    }

    int at(int s, int t) {
        return (int) visits().stream().filter(v -> v.isAt(s, t)).count();
    }

    int waits(int s, int t) {
        return (int) visits().stream().filter(v -> v.waits(s, t)).count();
    }

    int last() {
        return customers.stream().mapToInt(c -> c.left).max().orElse(0);
    }

    int order(int k) {
        List<Customer> sorted = new ArrayList<>(customers);
        sorted.sort((a, b) -> a.left - b.left);
        return k < 0 || k >= sorted.size() ? -1 : customers.indexOf(sorted.get(k));
    }
}
