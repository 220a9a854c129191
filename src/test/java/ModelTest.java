import java.util.Random;

/**
 * Compares QueueNetwork with the model over many drawn plans. The seeds are
 * fixed, so every run of this test is the same.
 */
public final class ModelTest {
    private static final int PLANS = 1500;
    private static final int ROUNDS = 5;

    private final Random random;
    private final SideBySide both;

    private ModelTest(int number) {
        random = new Random(number);
        both = new SideBySide("plan " + number);
    }

    public static void main(String[] args) {
        Checks.failIfItDoesNotEnd();
        int wrong = 0;
        for (int number = 0; number < PLANS && wrong == 0; number++) {
            ModelTest plan = new ModelTest(number);
            plan.play();
            wrong += plan.both.wrong();
        }
        System.out.println(wrong == 0 ? "the program and the model agree" : wrong + " answers are not as due");
        if (wrong != 0) {
            System.exit(1);
        }
    }

    /** A round has at most 25 + 4 * 13 + 16 calls, so the plan stays within 512. */
    private void play() {
        int latest = new int[] {0, 5, 20, 100}[random.nextInt(4)];
        int mostNeed = new int[] {1, 3, 8, 30}[random.nextInt(4)];
        for (int round = 0; round < ROUNDS; round++) {
            for (int i = 0; i < 25; i++) {
                change(latest, mostNeed);
            }
            ask();
        }
    }

    /** A number of 0 .. most, now and then one just outside, seldom any int. */
    private int draw(int most) {
        if (random.nextInt(200) == 0) {
            return random.nextInt();
        }
        return random.nextInt(20) == 0 ? random.nextInt(most + 5) - 2 : random.nextInt(most + 1);
    }

    private void change(int latest, int mostNeed) {
        int kind = random.nextInt(20);
        if (kind < 2) {
            both.station(draw(3), draw(3), draw(2));
        } else if (kind < 8) {
            both.arrive(random.nextInt(20) == 0 ? draw(100) : random.nextInt(latest + 1));
        } else if (kind < 19) {
            int need = random.nextInt(20) == 0 ? draw(30) : 1 + random.nextInt(mostNeed);
            both.visit(random.nextInt(12) == 0 ? draw(11) : draw(both.customers()), draw(3), need);
        } else {
            both.drop();
        }
    }

    private void ask() {
        for (int c = 0; c <= both.customers(); c++) {
            both.leaves(draw(3), c);
            both.joins(c, draw(3));
            both.begins(c, draw(3));
            both.order(c);
        }
        both.last();
        askStation(random.nextInt(4));
        for (int i = 0; i < 2; i++) {
            both.agree(draw(3), draw(3));
        }
    }

    private void askStation(int s) {
        int end = both.lastDue() + 3;
        both.busy(s);
        both.longest(s);
        both.area(s, random.nextInt(end));
        both.stays(s);
        both.area(s, 10000);
        for (int i = 0; i < 4; i++) {
            int t = random.nextInt(end);
            both.at(s, t);
            both.waits(s, t);
        }
    }
}
