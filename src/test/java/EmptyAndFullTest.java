import java.util.function.IntBinaryOperator;

/** An object without customers, customers without visits, twelve customers with four visits each, and 512 calls. */
public final class EmptyAndFullTest extends Checks {
    private static final int MOST_CALLS = 512;

    public static void main(String[] args) {
        runTests(EmptyAndFullTest.class);
    }

    // Promise 1: nobody

    static void aNewObjectHasNobodyAnywhere() {
        dueNobody(new QueueNetwork());
    }

    static void anEmptiedObjectHasNobodyAnywhere() {
        QueueNetwork x = fullOf(0);
        due("last()", x.last(), 1540);
        for (int left = 11; left >= 0; left--) {
            due("drop()", x.drop(), left);
        }
        dueNobody(x);
    }

    private static void dueNobody(QueueNetwork x) {
        for (int s = 0; s <= 3; s++) {
            for (int t : new int[] {0, 1, 100, 1540, 10000}) {
                due("at(" + s + ", " + t + ")", x.at(s, t), 0);
                due("waits(" + s + ", " + t + ")", x.waits(s, t), 0);
                due("area(" + s + ", " + t + ")", x.area(s, t), 0);
            }
            due("stays(" + s + ")", x.stays(s), 0);
            due("busy(" + s + ")", x.busy(s), 0);
            due("longest(" + s + ")", x.longest(s), 0);
            dueLeaves(x, s, BAD);
            due("joins(" + s + ", 0)", x.joins(s, 0), BAD);
            due("begins(" + s + ", 0)", x.begins(s, 0), BAD);
            due("order(" + s + ")", x.order(s), BAD);
            due("agree(" + s + ", 0)", x.agree(s, 0), true);
        }
        due("last()", x.last(), 0);
        due("visit(0, 0, 1)", x.visit(0, 0, 1), BAD);
        due("drop()", x.drop(), BAD);
        due("arrive(0)", x.arrive(0), 0);
    }

    static void twoObjectsDoNotShareAnything() {
        QueueNetwork x = new QueueNetwork();
        QueueNetwork y = new QueueNetwork();
        x.station(0, 3, 1);
        add(x, 10, 0, 5);
        dueLeaves(y, 0, BAD);
        add(y, 0, 0, 8);
        add(y, 0, 0, 8);
        due("last() of the other", y.last(), 16);
        due("last()", x.last(), 15);
    }

    // Customers without visits

    static void oneWithoutVisitsLeavesWhenItArrives() {
        for (int time = 0; time <= 100; time++) {
            QueueNetwork x = new QueueNetwork();
            add(x, time);
            dueLeaves(x, 0, time);
            due("last()", x.last(), time);
            due("order(0)", x.order(0), 0);
            due("order(1)", x.order(1), BAD);
        }
    }

    static void oneWithoutVisitsIsNowhere() {
        QueueNetwork x = new QueueNetwork();
        add(x, 5);
        for (int s = 0; s <= 3; s++) {
            for (int t = 4; t <= 6; t++) {
                due("at(" + s + ", " + t + ")", x.at(s, t), 0);
                due("waits(" + s + ", " + t + ")", x.waits(s, t), 0);
            }
            due("area(" + s + ", 10000)", x.area(s, 10000), 0);
            due("stays(" + s + ")", x.stays(s), 0);
            due("busy(" + s + ")", x.busy(s), 0);
            due("longest(" + s + ")", x.longest(s), 0);
        }
        due("joins(0, 0)", x.joins(0, 0), BAD);
        due("begins(0, 0)", x.begins(0, 0), BAD);
        due("agree(0, 3)", x.agree(0, 3), true);
    }

    static void oneWithoutVisitsGetsThemLater() {
        QueueNetwork x = new QueueNetwork();
        add(x, 5);
        add(x, 5, 0, 10);
        dueLeaves(x, 0, 5);
        due("begins(1, 0)", x.begins(1, 0), 5);
        due("visit(0, 0, 3)", x.visit(0, 0, 3), 1);
        dueLeaves(x, 0, 8);
        due("begins(1, 0)", x.begins(1, 0), 8);
    }

    static void twelveWithoutVisitsLeaveInTheOrderOfTheirTimes() {
        QueueNetwork x = new QueueNetwork();
        for (int c = 0; c <= 11; c++) {
            add(x, c % 3 * 50);
        }
        int[] want = {0, 3, 6, 9, 1, 4, 7, 10, 2, 5, 8, 11};
        for (int k = 0; k <= 11; k++) {
            due("order(" + k + ")", x.order(k), want[k]);
            dueLeaves(x, k, k % 3 * 50);
        }
        due("last()", x.last(), 100);
    }

    // Twelve with four visits each

    /** The services at station s follow each other from 100 on; places tells which one visit k of customer c is. */
    private static void dueFull(int s, int servers, int rule, IntBinaryOperator places) {
        QueueNetwork x = fullOf(s);
        due("station", x.station(s, servers, rule), true);
        for (int c = 0; c <= 11; c++) {
            for (int k = 0; k <= 3; k++) {
                int begin = 100 + 30 * (places.applyAsInt(c, k) / servers);
                due("begins(" + c + ", " + k + ")", x.begins(c, k), begin);
                int join = k == 0 ? 100 : 130 + 30 * (places.applyAsInt(c, k - 1) / servers);
                due("joins(" + c + ", " + k + ")", x.joins(c, k), join);
            }
            dueLeaves(x, c, 130 + 30 * (places.applyAsInt(c, 3) / servers));
        }
        due("last()", x.last(), 100 + 1440 / servers);
        due("busy(" + s + ")", x.busy(s), 1440 / servers);
        due("longest(" + s + ")", x.longest(s), 12 - servers);
    }

    static void twelveWithFourVisitsByRule0() {
        for (int s = 0; s <= 3; s++) {
            for (int servers = 1; servers <= 3; servers++) {
                dueFull(s, servers, 0, (c, k) -> 12 * k + c);
            }
        }
    }

    /** One who comes back has joined last, so it is served to its end. */
    static void twelveWithFourVisitsByRule1() {
        for (int s = 0; s <= 3; s++) {
            for (int servers = 1; servers <= 3; servers++) {
                int many = servers;
                dueFull(s, servers, 1, (c, k) -> ((11 - c) / many * 4 + k) * many);
            }
        }
    }

    static void twelveWithFourVisitsByRule2() {
        for (int s = 0; s <= 3; s++) {
            for (int servers = 1; servers <= 3; servers++) {
                dueFull(s, servers, 2, (c, k) -> 12 * k + c);
            }
        }
    }

    static void theLatestTimeIsReachedByEveryEngine() {
        for (int s = 0; s <= 3; s++) {
            QueueNetwork x = fullOf(s);
            dueLeaves(x, 11, 1540);
            dueLeaves(x, 0, 1210);
            for (int engine = 0; engine <= 3; engine++) {
                due("agree(" + engine + ", 0)", x.agree(engine, 0), true);
            }
            due("at(" + s + ", 1539)", x.at(s, 1539), 1);
            due("at(" + s + ", 1540)", x.at(s, 1540), 0);
            due("waits(" + s + ", 1509)", x.waits(s, 1509), 1);
            due("waits(" + s + ", 1510)", x.waits(s, 1510), 0);
        }
    }

    static void theGreatestSumsAreCountedToTheEnd() {
        QueueNetwork x = fullOf(2);
        due("stays(2)", x.stays(2), 15300);
        due("area(2, 10000)", x.area(2, 10000), 15300);
        due("area(2, 1540)", x.area(2, 1540), 15300);
        due("area(2, 1539)", x.area(2, 1539), 15299);
        due("area(2, 101)", x.area(2, 101), 12);
        due("area(2, 100)", x.area(2, 100), 0);
        x.station(2, 1, 1);
        due("stays(2) by rule 1", x.stays(2), 9360);
        due("area(2, 10000) by rule 1", x.area(2, 10000), 9360);
    }

    static void allTwelveAreCountedAtOnce() {
        QueueNetwork x = fullOf(1);
        due("at(1, 99)", x.at(1, 99), 0);
        due("at(1, 100)", x.at(1, 100), 12);
        due("waits(1, 100)", x.waits(1, 100), 11);
        due("at(1, 1209)", x.at(1, 1209), 12);
        due("at(1, 1210)", x.at(1, 1210), 11);
    }

    static void twelveAreOrderedByRule0AndByRule1() {
        QueueNetwork x = fullOf(3);
        for (int k = 0; k <= 11; k++) {
            due("order(" + k + ")", x.order(k), k);
        }
        x.station(3, 1, 1);
        for (int k = 0; k <= 11; k++) {
            due("order(" + k + ") by rule 1", x.order(k), 11 - k);
        }
    }

    /** Each goes round the stations; three stand at each until 100, one of them is served. */
    static void twelveGoRoundTheFourStations() {
        QueueNetwork x = new QueueNetwork();
        for (int c = 0; c <= 11; c++) {
            add(x, 0, c % 4, 10, (c + 1) % 4, 10, (c + 2) % 4, 10, (c + 3) % 4, 10);
        }
        for (int c = 0; c <= 11; c++) {
            int first = 10 * (c / 4);
            for (int k = 0; k <= 3; k++) {
                due("begins(" + c + ", " + k + ")", x.begins(c, k), first + 30 * k);
                due("joins(" + c + ", " + k + ")", x.joins(c, k), k == 0 ? 0 : first + 30 * k - 20);
            }
            dueLeaves(x, c, first + 100);
        }
        for (int s = 0; s <= 3; s++) {
            due("busy(" + s + ")", x.busy(s), 120);
            due("longest(" + s + ")", x.longest(s), 2);
            due("at(" + s + ", 0)", x.at(s, 0), 3);
            due("at(" + s + ", 119)", x.at(s, 119), 1);
        }
        due("last()", x.last(), 120);
    }

    /** Arrivals and ends of service come in turn; every engine must bring them in the order of their times. */
    static void twelveArriveInAnyOrderOfTheirNumbers() {
        for (int factor = 1; factor <= 12; factor++) {
            for (int step = 1; step <= 9; step++) {
                dueServedInOrderOfArrival(factor, step);
            }
        }
    }

    /** The factor scatters the places 0 .. 11 over the customers; one arrives at each step. */
    private static int scattered(int c, int factor) {
        return (c + 1) * factor % 13 - 1;
    }

    private static void dueServedInOrderOfArrival(int factor, int step) {
        QueueNetwork x = new QueueNetwork();
        int[] customers = new int[12];
        for (int c = 0; c <= 11; c++) {
            int place = scattered(c, factor);
            customers[place] = c;
            add(x, place * step, 0, 6 + c % 5, 1, 2);
        }
        int free = 0;
        for (int place = 0; place <= 11; place++) {
            int c = customers[place];
            int begin = Math.max(free, place * step);
            due("begins(" + c + ", 0) with " + factor + " and " + step, x.begins(c, 0), begin);
            free = begin + 6 + c % 5;
            due("begins(" + c + ", 1) with " + factor + " and " + step, x.begins(c, 1), free);
            dueLeaves(x, c, free + 2);
        }
    }

    /** Twelve arrivals and 48 ends of service, no two at the same time: a plan can't have more times than that. */
    static void sixtyTimesAtWhichSomethingHappens() {
        QueueNetwork x = new QueueNetwork();
        add(x, 0, 0, 29, 0, 2, 0, 2, 0, 2);
        for (int c = 1; c <= 11; c++) {
            add(x, 2 * c, 0, 2, 0, 2, 0, 2, 0, 2);
        }
        // Customer 0 comes back at 29, behind the eleven that wait by then.
        for (int c = 0; c <= 11; c++) {
            for (int k = 0; k <= 3; k++) {
                due("begins(" + c + ", " + k + ")", x.begins(c, k), c + k == 0 ? 0 : 27 + 2 * (12 * k + c));
            }
            dueLeaves(x, c, 101 + 2 * c);
        }
        due("last()", x.last(), 123);
        due("busy(0)", x.busy(0), 123);
        due("order(11)", x.order(11), 11);
    }

    static void shortestNeedsThroughout() {
        QueueNetwork x = new QueueNetwork();
        for (int c = 0; c <= 11; c++) {
            add(x, 0, 0, 1, 0, 1, 0, 1, 0, 1);
        }
        for (int c = 0; c <= 11; c++) {
            dueLeaves(x, c, 37 + c);
        }
        due("busy(0)", x.busy(0), 48);
        due("stays(0)", x.stays(0), 12 * 37 + 66);
    }

    static void aFullObjectTakesNothingMore() {
        QueueNetwork x = fullOf(0);
        due("arrive(100)", x.arrive(100), FULL);
        for (int c = 0; c <= 11; c++) {
            due("visit(" + c + ", 0, 30)", x.visit(c, 0, 30), FULL);
        }
        due("visit(12, 0, 30)", x.visit(12, 0, 30), BAD);
        due("last()", x.last(), 1540);
    }

    // The 512 calls that an object is used for

    static void theLastOf512CallsIsStillAnswered() {
        QueueNetwork x = new QueueNetwork();
        int calls = 0;
        for (; calls + 3 <= MOST_CALLS - 4; calls += 3) {
            due("arrive(4)", x.arrive(4), 0);
            due("visit(0, 2, 6)", x.visit(0, 2, 6), 1);
            due("drop()", x.drop(), 0);
        }
        for (; calls < MOST_CALLS - 4; calls++) {
            due("last()", x.last(), 0);
        }
        due("arrive(7)", x.arrive(7), 0);
        due("visit(0, 3, 20)", x.visit(0, 3, 20), 1);
        due("leaves(2, 0)", x.leaves(2, 0), 27);
        due("last()", x.last(), 27);
    }

    static void aFullObjectAnswersThroughAll512Calls() {
        QueueNetwork x = fullOf(1);
        for (int calls = 60; calls < MOST_CALLS; calls++) {
            int c = calls % 12;
            due("leaves(" + calls % 4 + ", " + c + ")", x.leaves(calls % 4, c), 1210 + 30 * c);
        }
    }
}
