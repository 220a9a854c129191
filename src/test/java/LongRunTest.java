import java.util.Random;

/**
 * Objects that are used for all of their 512 calls, every call drawn from the
 * whole face and compared with the model. The seeds are fixed, so every run of
 * this test is the same.
 */
public final class LongRunTest {
    private static final int RUNS = 400;
    private static final int CALLS = 512;
    private static final int KINDS = 16;
    private static final int CHANGES = 4;

    private final Random random;
    private final SideBySide both;
    private final int shareOfChanges;

    private LongRunTest(int number) {
        random = new Random(number);
        both = new SideBySide("run " + number);
        shareOfChanges = 5 + random.nextInt(90);
    }

    public static void main(String[] args) {
        Checks.failIfItDoesNotEnd();
        int wrong = 0;
        for (int number = 0; number < RUNS && wrong == 0; number++) {
            LongRunTest run = new LongRunTest(number);
            run.play(number % KINDS);
            wrong += run.both.wrong();
        }
        System.out.println(wrong == 0 ? "all answers are as due up to the 512th" : wrong + " answers are not as due");
        if (wrong != 0) {
            System.exit(1);
        }
    }

    /** Every kind of call comes to be the 512th. */
    private void play(int kindOfTheLast) {
        while (both.calls() < CALLS - 1) {
            call(random.nextInt(100) < shareOfChanges ? drawChange() : drawQuestion());
        }
        call(kindOfTheLast);
        if (both.calls() != CALLS) {
            throw new IllegalStateException(both.calls() + " calls");
        }
    }

    /** Customers and visits more often than stations and drops, so that plans fill up. */
    private int drawChange() {
        return new int[] {0, 1, 1, 1, 2, 2, 2, 2, 2, 2, 2, 2, 3}[random.nextInt(13)];
    }

    private int drawQuestion() {
        return CHANGES + random.nextInt(KINDS - CHANGES);
    }

    private void call(int kind) {
        switch (kind) {
            case 0 -> both.station(draw(0, 3), draw(1, 3), draw(0, 2));
            case 1 -> both.arrive(draw(0, random.nextBoolean() ? 10 : 100));
            case 2 -> both.visit(drawCustomer(), draw(0, 3), draw(1, 30));
            case 3 -> both.drop();
            case 4 -> both.leaves(draw(0, 3), drawCustomer());
            case 5 -> both.joins(drawCustomer(), draw(0, 3));
            case 6 -> both.begins(drawCustomer(), draw(0, 3));
            case 7 -> both.at(draw(0, 3), drawTime());
            case 8 -> both.waits(draw(0, 3), drawTime());
            case 9 -> both.area(draw(0, 3), drawTime());
            case 10 -> both.stays(draw(0, 3));
            case 11 -> both.busy(draw(0, 3));
            case 12 -> both.longest(draw(0, 3));
            case 13 -> both.last();
            case 14 -> both.order(drawCustomer());
            default -> both.agree(draw(0, 3), draw(0, 3));
        }
    }

    /** A number of least .. greatest, now and then one just outside, seldom any int. */
    private int draw(int least, int greatest) {
        int kind = random.nextInt(400);
        if (kind == 0) {
            return random.nextInt();
        }
        if (kind < 10) {
            return random.nextBoolean() ? least - 1 : greatest + 1;
        }
        return least + random.nextInt(greatest - least + 1);
    }

    private int drawCustomer() {
        return draw(0, Math.max(0, both.customers() - 1));
    }

    private int drawTime() {
        return random.nextInt(20) == 0 ? draw(0, 10000) : draw(0, both.lastDue() + 1);
    }
}
