/** What happens at the same time: who comes first by each rule, and in which order a time goes. */
public final class SameTimeTest extends Checks {
    public static void main(String[] args) {
        runTests(SameTimeTest.class);
    }

    private static QueueNetwork ruled(int s, int servers, int rule) {
        QueueNetwork x = new QueueNetwork();
        due("station", x.station(s, servers, rule), true);
        return x;
    }

    /** When the service of each customer's visit k begins. */
    private static void dueBegins(QueueNetwork x, int k, int... want) {
        for (int c = 0; c < want.length; c++) {
            due("begins(" + c + ", " + k + ")", x.begins(c, k), want[c]);
        }
    }

    private static void dueEnds(QueueNetwork x, int... want) {
        for (int c = 0; c < want.length; c++) {
            dueLeaves(x, c, want[c]);
        }
    }

    private static QueueNetwork sixTogether(int s, int servers, int rule) {
        QueueNetwork x = ruled(s, servers, rule);
        for (int c = 0; c < 6; c++) {
            add(x, 3, s, 2);
        }
        return x;
    }

    static void rule0TakesTheLeastNumberOfThoseTogether() {
        for (int s = 0; s <= 3; s++) {
            dueBegins(sixTogether(s, 1, 0), 0, 3, 5, 7, 9, 11, 13);
            dueBegins(sixTogether(s, 2, 0), 0, 3, 3, 5, 5, 7, 7);
            dueBegins(sixTogether(s, 3, 0), 0, 3, 3, 3, 5, 5, 5);
        }
    }

    static void rule1TakesTheGreatestNumberOfThoseTogether() {
        for (int s = 0; s <= 3; s++) {
            dueBegins(sixTogether(s, 1, 1), 0, 13, 11, 9, 7, 5, 3);
            dueBegins(sixTogether(s, 2, 1), 0, 7, 7, 5, 5, 3, 3);
            dueBegins(sixTogether(s, 3, 1), 0, 5, 5, 5, 3, 3, 3);
        }
    }

    static void rule2TakesTheLeastNumberOfThoseTogetherWithTheSameNeed() {
        for (int s = 0; s <= 3; s++) {
            dueBegins(sixTogether(s, 1, 2), 0, 3, 5, 7, 9, 11, 13);
            dueBegins(sixTogether(s, 2, 2), 0, 3, 3, 5, 5, 7, 7);
            dueBegins(sixTogether(s, 3, 2), 0, 3, 3, 3, 5, 5, 5);
        }
    }

    static void everyEngineKeepsTheOrderOfThoseTogether() {
        for (int s = 0; s <= 3; s++) {
            dueEnds(sixTogether(s, 1, 0), 5, 7, 9, 11, 13, 15);
            dueEnds(sixTogether(s, 1, 1), 15, 13, 11, 9, 7, 5);
            dueEnds(sixTogether(s, 1, 2), 5, 7, 9, 11, 13, 15);
        }
    }

    /** Five that join at 0 with the needs 5, 3, 5, 3 and 1. */
    private static QueueNetwork mixedNeeds(int servers, int rule) {
        QueueNetwork x = ruled(0, servers, rule);
        for (int need : new int[] {5, 3, 5, 3, 1}) {
            add(x, 0, 0, need);
        }
        return x;
    }

    static void onlyRule2LooksAtTheNeed() {
        dueBegins(mixedNeeds(1, 0), 0, 0, 5, 8, 13, 16);
        dueBegins(mixedNeeds(1, 1), 0, 12, 9, 4, 1, 0);
        dueBegins(mixedNeeds(1, 2), 0, 7, 1, 12, 4, 0);
    }

    static void needsAndNumbersWithTwoAndThreeServers() {
        dueBegins(mixedNeeds(2, 2), 0, 3, 0, 4, 1, 0);
        dueBegins(mixedNeeds(3, 2), 0, 1, 0, 3, 0, 0);
        dueBegins(mixedNeeds(2, 1), 0, 6, 3, 1, 0, 0);
        dueBegins(mixedNeeds(3, 1), 0, 3, 1, 0, 0, 0);
    }

    /** Customer 0 is served 0..10; 1 and 2 join at 6, 3 and 4 at 4, all with need 2. */
    private static QueueNetwork twoGroups(int rule) {
        QueueNetwork x = ruled(2, 1, rule);
        add(x, 0, 2, 10);
        add(x, 6, 2, 2);
        add(x, 6, 2, 2);
        add(x, 4, 2, 2);
        add(x, 4, 2, 2);
        return x;
    }

    static void rule0TakesTheGroupThatJoinedFirst() {
        dueBegins(twoGroups(0), 0, 0, 14, 16, 10, 12);
    }

    static void rule1TakesTheGroupThatJoinedLast() {
        dueBegins(twoGroups(1), 0, 0, 12, 10, 16, 14);
    }

    static void rule2TakesTheGroupThatJoinedFirstWhenTheNeedsAreTheSame() {
        dueBegins(twoGroups(2), 0, 0, 14, 16, 10, 12);
    }

    static void rule2TakesTheLeastNeedEvenOfTheGroupThatJoinedLast() {
        QueueNetwork x = ruled(2, 1, 2);
        add(x, 0, 2, 10);
        add(x, 4, 2, 3);
        add(x, 4, 2, 3);
        add(x, 6, 2, 2);
        add(x, 6, 2, 2);
        dueBegins(x, 0, 0, 14, 17, 10, 12);
    }

    static void rule2LooksAtTheNeedOfThePresentVisit() {
        QueueNetwork x = ruled(2, 1, 2);
        add(x, 0, 2, 10);
        add(x, 0, 0, 1, 2, 9, 3, 1);
        add(x, 0, 1, 30, 2, 1);
        add(x, 0, 3, 2, 2, 8, 3, 30);
        due("begins(3, 1)", x.begins(3, 1), 10);
        due("begins(1, 1)", x.begins(1, 1), 18);
        due("begins(2, 1)", x.begins(2, 1), 30);
    }

    static void rule1AlsoTakesOneWhoJoinedLaterWithALesserNumber() {
        QueueNetwork x = ruled(1, 1, 1);
        add(x, 7, 1, 2);
        add(x, 0, 1, 10);
        add(x, 5, 1, 2);
        dueBegins(x, 0, 10, 0, 12);
    }

    /** One comes from station 0 at 5, the other arrives at 5; station 1 has been busy until 8. */
    private static QueueNetwork comerAndArriver(int rule, boolean comerFirst) {
        QueueNetwork x = ruled(1, 1, rule);
        if (comerFirst) {
            add(x, 1, 0, 4, 1, 6);
            add(x, 5, 1, 6);
        } else {
            add(x, 5, 1, 6);
            add(x, 1, 0, 4, 1, 6);
        }
        add(x, 0, 1, 8);
        return x;
    }

    static void oneWhoComesAndOneWhoArrivesJoinAtTheSameTime() {
        for (int rule : new int[] {0, 2}) {
            due("the comer is 0, rule " + rule, comerAndArriver(rule, true).begins(0, 1), 8);
            due("the arriver is 1, rule " + rule, comerAndArriver(rule, true).begins(1, 0), 14);
            due("the arriver is 0, rule " + rule, comerAndArriver(rule, false).begins(0, 0), 8);
            due("the comer is 1, rule " + rule, comerAndArriver(rule, false).begins(1, 1), 14);
        }
        due("the arriver is 1, rule 1", comerAndArriver(1, true).begins(1, 0), 8);
        due("the comer is 0, rule 1", comerAndArriver(1, true).begins(0, 1), 14);
        due("the comer is 1, rule 1", comerAndArriver(1, false).begins(1, 1), 8);
        due("the arriver is 0, rule 1", comerAndArriver(1, false).begins(0, 0), 14);
    }

    static void severalWhoComeFromDifferentStationsJoinTogether() {
        int[][] begins = {{9, 11, 13}, {13, 11, 9}, {9, 11, 13}};
        for (int rule = 0; rule <= 2; rule++) {
            QueueNetwork x = ruled(3, 1, rule);
            add(x, 0, 2, 9, 3, 2);
            add(x, 4, 1, 5, 3, 2);
            add(x, 8, 0, 1, 3, 2);
            dueBegins(x, 1, begins[rule]);
            for (int c = 0; c <= 2; c++) {
                due("joins(" + c + ", 1)", x.joins(c, 1), 9);
            }
        }
    }

    /** Customer 1 is served 0..5 and comes back at 5 with the need 2, when 0 and 2 have waited with 3 and 1. */
    private static QueueNetwork comeBack(int rule) {
        QueueNetwork x = ruled(0, 1, rule);
        add(x, 1, 0, 3);
        add(x, 0, 0, 5, 0, 2);
        add(x, 2, 0, 1);
        return x;
    }

    static void oneWhoComesBackJoinsBehindTheOthersByRule0() {
        dueEnds(comeBack(0), 8, 11, 9);
        due("begins(1, 1)", comeBack(0).begins(1, 1), 9);
    }

    static void oneWhoComesBackIsTheLastToJoinByRule1() {
        dueEnds(comeBack(1), 11, 7, 8);
        due("begins(1, 1)", comeBack(1).begins(1, 1), 5);
    }

    static void oneWhoComesBackGoesByItsNewNeedByRule2() {
        dueEnds(comeBack(2), 11, 8, 6);
        due("begins(1, 1)", comeBack(2).begins(1, 1), 6);
    }

    static void oneWhoComesBackCountsOnceAtThatTime() {
        QueueNetwork x = new QueueNetwork();
        add(x, 0, 0, 3, 0, 3);
        due("at(0, 3)", x.at(0, 3), 1);
        due("waits(0, 3)", x.waits(0, 3), 0);
        due("area(0, 10)", x.area(0, 10), 6);
        due("stays(0)", x.stays(0), 6);
        due("busy(0)", x.busy(0), 6);
    }

    /** By its next visit customer 1 has joined at 5, not left and not begun: it is there, as one, and waits. */
    static void oneWhoComesBackAndWaitsIsOneCustomer() {
        QueueNetwork x = comeBack(0);
        int[] there = {1, 2, 3, 3, 3, 3, 3, 3, 2, 1, 1, 0};
        int[] waiting = {0, 1, 2, 2, 2, 2, 2, 2, 1, 0, 0, 0};
        for (int t = 0; t < there.length; t++) {
            due("at(0, " + t + ")", x.at(0, t), there[t]);
            due("waits(0, " + t + ")", x.waits(0, t), waiting[t]);
        }
        due("longest(0)", x.longest(0), 2);
        due("busy(0)", x.busy(0), 11);
        due("stays(0)", x.stays(0), 25);
        due("area(0, 6)", x.area(0, 6), 15);
        due("area(0, 5)", x.area(0, 5), 12);
    }

    static void oneWhoComesBackFromElsewhereIsNotThereBetween() {
        QueueNetwork x = new QueueNetwork();
        add(x, 0, 0, 3, 1, 4, 0, 2);
        for (int t = 0; t <= 10; t++) {
            due("at(0, " + t + ")", x.at(0, t), t < 3 || t == 7 || t == 8 ? 1 : 0);
            due("at(1, " + t + ")", x.at(1, t), t >= 3 && t < 7 ? 1 : 0);
            due("waits(0, " + t + ")", x.waits(0, t), 0);
        }
        due("busy(0)", x.busy(0), 5);
        due("stays(0)", x.stays(0), 5);
        due("area(0, 10000)", x.area(0, 10000), 5);
    }

    static void aServerThatGetsFreeIsTakenAtTheSameTime() {
        QueueNetwork x = new QueueNetwork();
        add(x, 0, 0, 5);
        add(x, 5, 0, 5);
        dueBegins(x, 0, 0, 5);
        due("at(0, 5)", x.at(0, 5), 1);
        due("waits(0, 5)", x.waits(0, 5), 0);
        due("busy(0)", x.busy(0), 10);
    }

    static void serversThatGetFreeTogetherAreAllTaken() {
        QueueNetwork x = ruled(0, 3, 0);
        for (int c = 0; c < 7; c++) {
            add(x, 0, 0, 4);
        }
        dueBegins(x, 0, 0, 0, 0, 4, 4, 4, 8);
        due("waits(0, 3)", x.waits(0, 3), 4);
        due("waits(0, 4)", x.waits(0, 4), 1);
        due("at(0, 4)", x.at(0, 4), 4);
        due("waits(0, 8)", x.waits(0, 8), 0);
    }

    static void twoWhoChangePlacesBothBeginAtOnce() {
        QueueNetwork x = new QueueNetwork();
        add(x, 0, 0, 6, 3, 2);
        add(x, 0, 3, 6, 0, 2);
        dueBegins(x, 1, 6, 6);
        dueEnds(x, 8, 8);
        due("at(0, 6)", x.at(0, 6), 1);
        due("at(3, 6)", x.at(3, 6), 1);
    }

    static void allFourStationsBeginAtTheSameTime() {
        QueueNetwork x = new QueueNetwork();
        for (int c = 0; c <= 3; c++) {
            add(x, 0, c, 1 + c, (c + 1) % 4, 3);
        }
        dueBegins(x, 0, 0, 0, 0, 0);
        dueBegins(x, 1, 2, 3, 4, 4);
    }

    static void oneThatLeavesADifferentStationIsNotServedTwice() {
        QueueNetwork x = new QueueNetwork();
        add(x, 0, 3, 5, 0, 5, 3, 5);
        add(x, 5, 0, 5);
        due("joins(0, 1)", x.joins(0, 1), 5);
        dueBegins(x, 0, 0, 10);
        due("begins(0, 1)", x.begins(0, 1), 5);
        due("begins(0, 2)", x.begins(0, 2), 10);
    }

    static void thoseWhoLeaveTogetherAreOrderedByNumber() {
        for (int rule = 0; rule <= 2; rule++) {
            QueueNetwork x = ruled(0, 3, rule);
            add(x, 6, 0, 4);
            add(x, 5, 0, 5);
            add(x, 10);
            add(x, 0, 1, 10);
            add(x, 4, 0, 6);
            add(x, 9);
            int[] want = {5, 0, 1, 2, 3, 4};
            for (int k = 0; k < want.length; k++) {
                due("order(" + k + ")", x.order(k), want[k]);
            }
        }
    }

    static void oneWithoutVisitsTakesNoServer() {
        QueueNetwork x = new QueueNetwork();
        add(x, 3);
        add(x, 3, 0, 4);
        add(x, 3);
        dueEnds(x, 3, 7, 3);
        due("begins(1, 0)", x.begins(1, 0), 3);
    }

    static void joiningAtTheFirstAndTheLastTimeOfArrival() {
        for (int time : new int[] {0, 100}) {
            int[][] ends = {{1, 2, 3}, {3, 2, 1}, {1, 2, 3}};
            for (int rule = 0; rule <= 2; rule++) {
                QueueNetwork x = ruled(1, 1, rule);
                for (int c = 0; c <= 2; c++) {
                    add(x, time, 1, 1);
                }
                for (int c = 0; c <= 2; c++) {
                    dueLeaves(x, c, time + ends[rule][c]);
                }
            }
        }
    }

    static void eachStationGoesByItsOwnRule() {
        QueueNetwork x = new QueueNetwork();
        for (int s = 0; s <= 2; s++) {
            x.station(s, 1, s);
        }
        for (int s = 0; s <= 3; s++) {
            add(x, 0, s, 3);
            add(x, 0, s, 2);
            add(x, 0, s, 4);
        }
        dueBegins(x, 0, 0, 3, 5, 6, 4, 0, 2, 0, 5, 0, 3, 5);
    }
}
