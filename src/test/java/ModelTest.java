import java.util.List;
import java.util.Random;

/**
 * Compares QueueNetwork with the model over many drawn plans. The seeds are
 * fixed, so every run of this test is the same.
 */
public final class ModelTest {
    private static final int PLANS = 1500;
    private static final int CALLS = 512;

    private final Random random;
    private final int number;
    private final QueueNetwork program = new QueueNetwork();
    private final Model model = new Model();
    private final StringBuilder story = new StringBuilder();
    private int calls = 0;
    private int wrong = 0;

    private ModelTest(int number) {
        this.number = number;
        random = new Random(number);
    }

    public static void main(String[] args) {
        Checks.failIfItDoesNotEnd();
        int wrong = 0;
        for (int number = 0; number < PLANS && wrong == 0; number++) {
            ModelTest plan = new ModelTest(number);
            plan.play();
            wrong += plan.wrong;
        }
        System.out.println(wrong == 0 ? "the program and the model agree" : wrong + " answers are not as due");
        if (wrong != 0) {
            System.exit(1);
        }
    }

    private void play() {
        int latest = new int[] {0, 5, 20, 100}[random.nextInt(4)];
        int mostNeed = new int[] {1, 3, 8, 30}[random.nextInt(4)];
        for (int round = 0; round < 6 && calls < CALLS - 100; round++) {
            for (int i = 0; i < 25; i++) {
                change(latest, mostNeed);
            }
            model.run();
            ask();
        }
    }

    private void due(String call, long got, long want) {
        calls++;
        if (got != want && calls <= CALLS) {
            if (wrong == 0) {
                System.out.println("plan " + number + ":" + story);
            }
            wrong++;
            System.out.println("plan " + number + ": " + call + " answered " + got + ", due is " + want);
        }
    }

    private void due(String call, boolean got, boolean want) {
        due(call, got ? 1 : 0, want ? 1 : 0);
    }

    /** A number of 0 .. most, now and then one just outside, seldom any int. */
    private int draw(int most) {
        if (random.nextInt(200) == 0) {
            return random.nextInt();
        }
        return random.nextInt(20) == 0 ? random.nextInt(most + 5) - 2 : random.nextInt(most + 1);
    }

    private void change(int latest, int mostNeed) {
        int kind = random.nextInt(20);
        if (kind < 2) {
            changeStation(draw(3), draw(3), draw(2));
        } else if (kind < 8) {
            changeArrive(random.nextInt(20) == 0 ? draw(100) : random.nextInt(latest + 1));
        } else if (kind < 19) {
            int need = random.nextInt(20) == 0 ? draw(30) : 1 + random.nextInt(mostNeed);
            changeVisit(random.nextInt(12) == 0 ? draw(11) : draw(model.customers.size()), draw(3), need);
        } else {
            story.append(" drop()");
            int size = model.customers.size();
            if (size > 0) {
                model.customers.remove(size - 1);
            }
            due("drop()", program.drop(), size - 1);
        }
    }

    private void changeStation(int s, int servers, int rule) {
        String call = "station(" + s + ", " + servers + ", " + rule + ")";
        story.append(' ').append(call);
        boolean fits = s >= 0 && s < 4 && servers >= 1 && servers <= 3 && rule >= 0 && rule <= 2;
        if (fits) {
            model.servers[s] = servers;
            model.rules[s] = rule;
        }
        due(call, program.station(s, servers, rule), fits);
    }

    private void changeArrive(int time) {
        String call = "arrive(" + time + ")";
        story.append(' ').append(call);
        int want = model.customers.size();
        if (time < 0 || time > 100) {
            want = -1;
        } else if (want == 12) {
            want = -2;
        } else {
            model.customers.add(new Model.Customer(time));
        }
        due(call, program.arrive(time), want);
    }

    private void changeVisit(int c, int s, int need) {
        String call = "visit(" + c + ", " + s + ", " + need + ")";
        story.append(' ').append(call);
        int want = -1;
        if (c >= 0 && c < model.customers.size() && s >= 0 && s < 4 && need >= 1 && need <= 30) {
            List<Model.Visit> visits = model.customers.get(c).visits;
            if (visits.size() < 4) {
                visits.add(new Model.Visit(s, need));
                want = visits.size();
            } else {
                want = -2;
            }
        }
        due(call, program.visit(c, s, need), want);
    }

    private void ask() {
        for (int c = 0; c <= model.customers.size(); c++) {
            askCustomer(c);
            due("order(" + c + ")", program.order(c), model.order(c));
        }
        due("last()", program.last(), model.last());
        askStation(random.nextInt(4));
        for (int i = 0; i < 2; i++) {
            int engine = draw(3);
            int other = draw(3);
            boolean want = engine >= 0 && engine < 4 && other >= 0 && other < 4;
            due("agree(" + engine + ", " + other + ")", program.agree(engine, other), want);
        }
    }

    private void askCustomer(int c) {
        boolean known = c < model.customers.size();
        int engine = draw(3);
        int left = known && engine >= 0 && engine < 4 ? model.customers.get(c).left : -1;
        due("leaves(" + engine + ", " + c + ")", program.leaves(engine, c), left);
        int k = draw(3);
        boolean hasVisit = known && k >= 0 && k < model.customers.get(c).visits.size();
        int joined = hasVisit ? model.customers.get(c).visits.get(k).joined : -1;
        int begun = hasVisit ? model.customers.get(c).visits.get(k).begun : -1;
        due("joins(" + c + ", " + k + ")", program.joins(c, k), joined);
        due("begins(" + c + ", " + k + ")", program.begins(c, k), begun);
    }

    private void askStation(int s) {
        int end = model.last() + 3;
        int busy = 0;
        int longest = 0;
        int area = 0;
        int askedEnd = random.nextInt(end);
        for (int t = 0; t < end; t++) {
            int waits = model.waits(s, t);
            busy += model.at(s, t) > waits ? 1 : 0;
            longest = Math.max(longest, waits);
            area += t < askedEnd ? model.at(s, t) : 0;
        }
        int stays = model.visits().stream().filter(v -> v.station == s).mapToInt(v -> v.left - v.joined).sum();
        due("busy(" + s + ")", program.busy(s), busy);
        due("longest(" + s + ")", program.longest(s), longest);
        due("area(" + s + ", " + askedEnd + ")", program.area(s, askedEnd), area);
        due("stays(" + s + ")", program.stays(s), stays);
        due("area(" + s + ", 10000)", program.area(s, 10000), stays);
        for (int i = 0; i < 4; i++) {
            int t = random.nextInt(end);
            due("at(" + s + ", " + t + ")", program.at(s, t), model.at(s, t));
            due("waits(" + s + ", " + t + ")", program.waits(s, t), model.waits(s, t));
        }
    }
}
