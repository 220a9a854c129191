/**
 * Every range that the document names: what lies just inside is taken, what
 * lies just outside, the least and the greatest int and what would wrap into
 * the range are refused.
 */
public final class BoundsTest extends Checks {
    public static void main(String[] args) {
        runTests(BoundsTest.class);
    }

    /** Customers 0, 1 and 2 have none, one and four visits; each is served alone. */
    private static QueueNetwork noneOneFour() {
        QueueNetwork x = new QueueNetwork();
        add(x, 7);
        add(x, 0, 0, 9);
        add(x, 20, 1, 1, 2, 2, 3, 3, 1, 4);
        return x;
    }

    // Promise 2: station

    static void stationTakesEachStationServersAndRule() {
        for (int s = 0; s <= 3; s++) {
            for (int servers = 1; servers <= 3; servers++) {
                for (int rule = 0; rule <= 2; rule++) {
                    QueueNetwork x = new QueueNetwork();
                    due("station(" + s + ", " + servers + ", " + rule + ")", x.station(s, servers, rule), true);
                }
            }
        }
    }

    static void stationRefusesAStationOutside() {
        for (int s : outside(0, 3)) {
            due("station(" + s + ", 1, 0)", new QueueNetwork().station(s, 1, 0), false);
            due("station(" + s + ", 3, 2)", new QueueNetwork().station(s, 3, 2), false);
        }
    }

    static void stationRefusesServersOutside() {
        for (int servers : outside(1, 3)) {
            due("station(0, " + servers + ", 0)", new QueueNetwork().station(0, servers, 0), false);
            due("station(3, " + servers + ", 2)", new QueueNetwork().station(3, servers, 2), false);
        }
    }

    static void stationRefusesARuleOutside() {
        for (int rule : outside(0, 2)) {
            due("station(0, 1, " + rule + ")", new QueueNetwork().station(0, 1, rule), false);
            due("station(3, 3, " + rule + ")", new QueueNetwork().station(3, 3, rule), false);
        }
    }

    static void stationRefusesMoreThanOneOutside() {
        due("station(4, 4, 0)", new QueueNetwork().station(4, 4, 0), false);
        due("station(-1, 1, 3)", new QueueNetwork().station(-1, 1, 3), false);
        due("station(0, 0, -1)", new QueueNetwork().station(0, 0, -1), false);
        due("station(4, 0, 3)", new QueueNetwork().station(4, 0, 3), false);
    }

    static void stationOneServerServesOneAtATime() {
        for (int s = 0; s <= 3; s++) {
            due("waits with one server", fiveAtOnce(s, 1).waits(s, 0), 4);
            due("last with one server", fiveAtOnce(s, 1).last(), 50);
        }
    }

    static void stationTwoServersServeTwoAtATime() {
        for (int s = 0; s <= 3; s++) {
            due("waits with two servers", fiveAtOnce(s, 2).waits(s, 0), 3);
            due("last with two servers", fiveAtOnce(s, 2).last(), 30);
        }
    }

    static void stationThreeServersServeThreeAtATime() {
        for (int s = 0; s <= 3; s++) {
            due("waits with three servers", fiveAtOnce(s, 3).waits(s, 0), 2);
            due("last with three servers", fiveAtOnce(s, 3).last(), 20);
        }
    }

    private static QueueNetwork fiveAtOnce(int s, int servers) {
        QueueNetwork x = new QueueNetwork();
        x.station(s, servers, 0);
        for (int c = 0; c < 5; c++) {
            add(x, 0, s, 10);
        }
        return x;
    }

    static void stationLeavesTheOtherStationsAsTheyAre() {
        for (int s = 0; s <= 3; s++) {
            for (int changed = 0; changed <= 3; changed++) {
                QueueNetwork x = new QueueNetwork();
                x.station(changed, 3, 1);
                add(x, 0, s, 10);
                add(x, 0, s, 10);
                due("begins at " + s + " when " + changed + " has three", x.begins(1, 0), s == changed ? 0 : 10);
            }
        }
    }

    static void stationIsGivenAnewWhileThereAreCustomers() {
        QueueNetwork x = fiveAtOnce(2, 3);
        due("last()", x.last(), 20);
        due("station(2, 1, 1)", x.station(2, 1, 1), true);
        due("last()", x.last(), 50);
        due("begins(4, 0)", x.begins(4, 0), 0);
        due("station(2, 2, 0)", x.station(2, 2, 0), true);
        due("last()", x.last(), 30);
        due("begins(4, 0)", x.begins(4, 0), 20);
    }

    // Promise 3: arrive

    static void arriveTakesEachTimeOfTheRange() {
        for (int time = 0; time <= 100; time++) {
            QueueNetwork x = new QueueNetwork();
            due("arrive(" + time + ")", x.arrive(time), 0);
            dueLeaves(x, 0, time);
        }
    }

    static void arriveRefusesATimeOutside() {
        for (int time : outside(0, 100)) {
            due("arrive(" + time + ")", new QueueNetwork().arrive(time), BAD);
        }
    }

    static void arriveAnswersTheNextNumberUpToEleven() {
        QueueNetwork x = new QueueNetwork();
        for (int c = 0; c <= 11; c++) {
            due("arrive(" + (100 - c) + ")", x.arrive(100 - c), c);
        }
        for (int c = 0; c <= 11; c++) {
            dueLeaves(x, c, 100 - c);
        }
    }

    static void arriveIsFullWhenThereAreTwelve() {
        for (int time = 0; time <= 100; time++) {
            due("arrive(" + time + ") of the thirteenth", twelve().arrive(time), FULL);
        }
    }

    static void arriveIsFullAgainAndAgain() {
        QueueNetwork x = twelve();
        for (int i = 0; i < 40; i++) {
            due("arrive(3)", x.arrive(3), FULL);
        }
        due("order(12)", x.order(12), BAD);
        due("drop()", x.drop(), 11);
    }

    static void arriveTakesTheTwelfthPlaceAgainAfterDrop() {
        QueueNetwork x = fullOf(0);
        due("drop()", x.drop(), 11);
        due("arrive(8)", x.arrive(8), 11);
        dueLeaves(x, 11, 8);
        due("arrive(8)", x.arrive(8), FULL);
    }

    // Promise 4: visit

    static void visitTakesEachStation() {
        for (int s = 0; s <= 3; s++) {
            QueueNetwork x = new QueueNetwork();
            add(x, 0);
            due("visit(0, " + s + ", 5)", x.visit(0, s, 5), 1);
            for (int other = 0; other <= 3; other++) {
                due("at(" + other + ", 4)", x.at(other, 4), other == s ? 1 : 0);
            }
        }
    }

    static void visitRefusesAStationOutside() {
        for (int s : outside(0, 3)) {
            due("visit(0, " + s + ", 1)", twelve().visit(0, s, 1), BAD);
            due("visit(11, " + s + ", 30)", twelve().visit(11, s, 30), BAD);
        }
    }

    static void visitTakesEachNeed() {
        for (int need = 1; need <= 30; need++) {
            QueueNetwork x = new QueueNetwork();
            add(x, 9);
            due("visit(0, 2, " + need + ")", x.visit(0, 2, need), 1);
            dueLeaves(x, 0, 9 + need);
        }
    }

    static void visitRefusesANeedOutside() {
        for (int need : outside(1, 30)) {
            due("visit(0, 0, " + need + ")", twelve().visit(0, 0, need), BAD);
            due("visit(11, 3, " + need + ")", twelve().visit(11, 3, need), BAD);
        }
    }

    static void visitTakesEachOfTwelveCustomers() {
        for (int c = 0; c <= 11; c++) {
            QueueNetwork x = twelve();
            due("visit(" + c + ", 0, 6)", x.visit(c, 0, 6), 1);
            for (int other = 0; other <= 11; other++) {
                due("leaves(0, " + other + ")", x.leaves(0, other), other == c ? 56 : 50);
            }
        }
    }

    static void visitRefusesACustomerThatIsNot() {
        for (int c : outside(0, 11)) {
            due("visit(" + c + ", 0, 1) of twelve", twelve().visit(c, 0, 1), BAD);
        }
        for (int c : outside(0, 2)) {
            due("visit(" + c + ", 0, 1) of three", line().visit(c, 0, 1), BAD);
        }
        for (int c : outside(0, 0)) {
            QueueNetwork x = new QueueNetwork();
            add(x, 5);
            due("visit(" + c + ", 0, 1) of one", x.visit(c, 0, 1), BAD);
        }
    }

    static void visitRefusesEveryCustomerOfANewObject() {
        for (int c = -2; c <= 13; c++) {
            due("visit(" + c + ", 0, 1)", new QueueNetwork().visit(c, 0, 1), BAD);
        }
    }

    static void visitRefusesADroppedCustomer() {
        QueueNetwork x = line();
        x.drop();
        due("visit(2, 0, 1)", x.visit(2, 0, 1), BAD);
        due("visit(1, 0, 1)", x.visit(1, 0, 1), 2);
    }

    static void visitAnswersOneToFourThenFull() {
        QueueNetwork x = twelve();
        for (int many = 1; many <= 4; many++) {
            for (int c = 0; c <= 11; c++) {
                due("visit(" + c + ", 1, 2)", x.visit(c, 1, 2), many);
            }
        }
        for (int c = 0; c <= 11; c++) {
            due("visit(" + c + ", 1, 2)", x.visit(c, 1, 2), FULL);
        }
        for (int c = 0; c <= 11; c++) {
            due("joins(" + c + ", 4)", x.joins(c, 4), BAD);
        }
    }

    static void visitIsFullForEveryStationAndNeed() {
        for (int s = 0; s <= 3; s++) {
            for (int need = 1; need <= 30; need++) {
                due("visit(2, " + s + ", " + need + ")", noneOneFour().visit(2, s, need), FULL);
            }
        }
    }

    static void visitTestsTheStationBeforeFull() {
        for (int s : outside(0, 3)) {
            due("visit(2, " + s + ", 1) when it has four", noneOneFour().visit(2, s, 1), BAD);
        }
    }

    static void visitTestsTheNeedBeforeFull() {
        for (int need : outside(1, 30)) {
            due("visit(2, 0, " + need + ") when it has four", noneOneFour().visit(2, 0, need), BAD);
        }
    }

    static void visitTestsTheCustomerBeforeFull() {
        for (int c : outside(0, 11)) {
            due("visit(" + c + ", 0, 1) when all have four", fullOf(0).visit(c, 0, 1), BAD);
        }
    }

    static void visitIsFullForOneCustomerAlone() {
        QueueNetwork x = noneOneFour();
        due("visit(2, 0, 1)", x.visit(2, 0, 1), FULL);
        due("visit(1, 0, 1)", x.visit(1, 0, 1), 2);
        due("visit(0, 0, 1)", x.visit(0, 0, 1), 1);
    }

    // Promise 5: drop

    static void dropIsBadOnANewObject() {
        due("drop()", new QueueNetwork().drop(), BAD);
    }

    static void dropCountsDownFromTwelveThenIsBad() {
        QueueNetwork x = fullOf(3);
        for (int left = 11; left >= 0; left--) {
            due("drop()", x.drop(), left);
            due("order(" + left + ")", x.order(left), BAD);
        }
        for (int i = 0; i < 5; i++) {
            due("drop() of none", x.drop(), BAD);
        }
        due("arrive(1)", x.arrive(1), 0);
        due("drop()", x.drop(), 0);
    }

    static void dropTakesTheLastOneAndItsVisits() {
        QueueNetwork x = noneOneFour();
        due("drop()", x.drop(), 2);
        due("leaves(0, 2)", x.leaves(0, 2), BAD);
        due("stays(1)", x.stays(1), 0);
        due("leaves(0, 1)", x.leaves(0, 1), 9);
        due("leaves(0, 0)", x.leaves(0, 0), 7);
        due("arrive(60)", x.arrive(60), 2);
        due("leaves(0, 2)", x.leaves(0, 2), 60);
        due("joins(2, 0)", x.joins(2, 0), BAD);
        due("begins(2, 0)", x.begins(2, 0), BAD);
        due("visit(2, 0, 1)", x.visit(2, 0, 1), 1);
    }

    static void dropFreesTheServerForTheOthers() {
        QueueNetwork x = new QueueNetwork();
        add(x, 5, 0, 4);
        add(x, 0, 0, 20);
        due("begins(0, 0)", x.begins(0, 0), 20);
        due("drop()", x.drop(), 1);
        due("begins(0, 0)", x.begins(0, 0), 5);
    }

    static void dropLeavesTheStationsAsTheyAre() {
        QueueNetwork x = fiveAtOnce(3, 3);
        for (int left = 4; left >= 0; left--) {
            due("drop()", x.drop(), left);
        }
        add(x, 0, 3, 10);
        add(x, 0, 3, 10);
        add(x, 0, 3, 10);
        due("last()", x.last(), 10);
    }

    // Promise 6: leaves

    static void leavesTakesEachEngine() {
        for (int engine = 0; engine <= 3; engine++) {
            due("leaves(" + engine + ", 0)", line().leaves(engine, 0), 5);
            due("leaves(" + engine + ", 1)", line().leaves(engine, 1), 15);
            due("leaves(" + engine + ", 2)", line().leaves(engine, 2), 17);
        }
    }

    static void leavesRefusesAnEngineOutside() {
        for (int engine : outside(0, 3)) {
            due("leaves(" + engine + ", 0)", line().leaves(engine, 0), BAD);
            due("leaves(" + engine + ", 2)", line().leaves(engine, 2), BAD);
        }
    }

    static void leavesRefusesACustomerThatIsNot() {
        for (int c : outside(0, 2)) {
            dueLeaves(line(), c, BAD);
        }
        for (int c : outside(0, 11)) {
            dueLeaves(twelve(), c, BAD);
        }
    }

    static void leavesRefusesEveryCustomerOfANewObject() {
        for (int c = -1; c <= 12; c++) {
            dueLeaves(new QueueNetwork(), c, BAD);
        }
    }

    static void leavesRefusesBothOutside() {
        due("leaves(4, 3)", line().leaves(4, 3), BAD);
        due("leaves(-1, -1)", line().leaves(-1, -1), BAD);
    }

    static void leavesWithoutVisitsIsTheArrival() {
        for (int time : new int[] {0, 1, 99, 100}) {
            QueueNetwork x = new QueueNetwork();
            add(x, time);
            dueLeaves(x, 0, time);
        }
    }

    // Promises 7 and 8: joins and begins

    static void joinsAndBeginsTakeEachVisit() {
        QueueNetwork x = noneOneFour();
        int[] times = {20, 21, 23, 26};
        for (int k = 0; k <= 3; k++) {
            due("joins(2, " + k + ")", x.joins(2, k), times[k]);
            due("begins(2, " + k + ")", x.begins(2, k), times[k]);
        }
        due("joins(1, 0)", x.joins(1, 0), 0);
        due("begins(1, 0)", x.begins(1, 0), 0);
    }

    static void joinsRefusesAVisitOutside() {
        for (int k : outside(0, 3)) {
            due("joins(2, " + k + ") of four", noneOneFour().joins(2, k), BAD);
        }
        for (int k : outside(0, 0)) {
            due("joins(1, " + k + ") of one", noneOneFour().joins(1, k), BAD);
        }
    }

    static void beginsRefusesAVisitOutside() {
        for (int k : outside(0, 3)) {
            due("begins(2, " + k + ") of four", noneOneFour().begins(2, k), BAD);
        }
        for (int k : outside(0, 0)) {
            due("begins(1, " + k + ") of one", noneOneFour().begins(1, k), BAD);
        }
    }

    static void joinsAndBeginsRefuseEveryVisitOfOneWithout() {
        for (int k = -1; k <= 8; k++) {
            due("joins(0, " + k + ")", noneOneFour().joins(0, k), BAD);
            due("begins(0, " + k + ")", noneOneFour().begins(0, k), BAD);
        }
    }

    static void joinsRefusesACustomerThatIsNot() {
        for (int c : outside(0, 2)) {
            due("joins(" + c + ", 0) of three", line().joins(c, 0), BAD);
        }
        for (int c : outside(0, 11)) {
            due("joins(" + c + ", 3) of twelve", fullOf(1).joins(c, 3), BAD);
        }
        due("joins(0, 0) of none", new QueueNetwork().joins(0, 0), BAD);
    }

    static void beginsRefusesACustomerThatIsNot() {
        for (int c : outside(0, 2)) {
            due("begins(" + c + ", 0) of three", line().begins(c, 0), BAD);
        }
        for (int c : outside(0, 11)) {
            due("begins(" + c + ", 3) of twelve", fullOf(1).begins(c, 3), BAD);
        }
        due("begins(0, 0) of none", new QueueNetwork().begins(0, 0), BAD);
    }

    static void joinsAndBeginsDoNotReachOverToANeighbour() {
        for (int c = 0; c <= 11; c++) {
            due("joins(" + c + ", 4)", fullOf(1).joins(c, 4), BAD);
            due("joins(" + c + ", -1)", fullOf(1).joins(c, -1), BAD);
            due("begins(" + c + ", 4)", fullOf(1).begins(c, 4), BAD);
            due("begins(" + c + ", -1)", fullOf(1).begins(c, -1), BAD);
        }
        due("joins(-1, 4)", fullOf(1).joins(-1, 4), BAD);
        due("joins(12, -1)", fullOf(1).joins(12, -1), BAD);
        due("begins(-1, 4)", fullOf(1).begins(-1, 4), BAD);
        due("begins(12, -1)", fullOf(1).begins(12, -1), BAD);
    }

    static void joinsAndBeginsRefuseADroppedCustomer() {
        QueueNetwork x = line();
        due("joins(2, 0)", x.joins(2, 0), 4);
        due("begins(2, 0)", x.begins(2, 0), 15);
        x.drop();
        due("joins(2, 0)", x.joins(2, 0), BAD);
        due("begins(2, 0)", x.begins(2, 0), BAD);
    }

    // Promises 9 and 10: at and waits

    static void atTakesTheBoundsOfTime() {
        for (int s = 0; s <= 3; s++) {
            QueueNetwork x = fiveAtOnce(s, 1);
            due("at(" + s + ", 0)", x.at(s, 0), 5);
            due("at(" + s + ", 9999)", x.at(s, 9999), 0);
            due("at(" + s + ", 10000)", x.at(s, 10000), 0);
        }
    }

    static void waitsTakesTheBoundsOfTime() {
        for (int s = 0; s <= 3; s++) {
            QueueNetwork x = fiveAtOnce(s, 1);
            due("waits(" + s + ", 0)", x.waits(s, 0), 4);
            due("waits(" + s + ", 9999)", x.waits(s, 9999), 0);
            due("waits(" + s + ", 10000)", x.waits(s, 10000), 0);
        }
    }

    static void atRefusesATimeOutside() {
        for (int t : outside(0, 10000)) {
            due("at(1, " + t + ")", line().at(1, t), BAD);
            due("at(1, " + t + ") of none", new QueueNetwork().at(1, t), BAD);
        }
    }

    static void waitsRefusesATimeOutside() {
        for (int t : outside(0, 10000)) {
            due("waits(1, " + t + ")", line().waits(1, t), BAD);
            due("waits(1, " + t + ") of none", new QueueNetwork().waits(1, t), BAD);
        }
    }

    static void atRefusesAStationOutside() {
        for (int s : outside(0, 3)) {
            due("at(" + s + ", 4)", line().at(s, 4), BAD);
            due("at(" + s + ", 0) of none", new QueueNetwork().at(s, 0), BAD);
        }
    }

    static void waitsRefusesAStationOutside() {
        for (int s : outside(0, 3)) {
            due("waits(" + s + ", 4)", line().waits(s, 4), BAD);
            due("waits(" + s + ", 0) of none", new QueueNetwork().waits(s, 0), BAD);
        }
    }

    static void atAndWaitsRefuseBothOutside() {
        due("at(4, 10001)", line().at(4, 10001), BAD);
        due("at(-1, -1)", line().at(-1, -1), BAD);
        due("waits(4, 10001)", line().waits(4, 10001), BAD);
        due("waits(-1, -1)", line().waits(-1, -1), BAD);
    }

    static void atCountsFromJoiningToBeforeLeaving() {
        QueueNetwork x = new QueueNetwork();
        add(x, 10, 2, 5);
        due("before joining", x.at(2, 9), 0);
        due("when joining", x.at(2, 10), 1);
        due("before leaving", x.at(2, 14), 1);
        due("when leaving", x.at(2, 15), 0);
    }

    static void waitsCountsFromJoiningToBeforeBeginning() {
        QueueNetwork x = new QueueNetwork();
        add(x, 8, 2, 7);
        add(x, 10, 2, 5);
        due("before joining", x.waits(2, 9), 0);
        due("when joining", x.waits(2, 10), 1);
        due("before beginning", x.waits(2, 14), 1);
        due("when beginning", x.waits(2, 15), 0);
        due("when leaving", x.waits(2, 20), 0);
    }

    static void waitsDoesNotCountOneThatBeginsAtOnce() {
        QueueNetwork x = new QueueNetwork();
        add(x, 10, 2, 5);
        for (int t = 9; t <= 15; t++) {
            due("waits(2, " + t + ")", x.waits(2, t), 0);
        }
    }

    // Promise 11: area

    static void areaTakesTheBoundsOfEnd() {
        for (int s = 0; s <= 3; s++) {
            QueueNetwork x = fiveAtOnce(s, 1);
            due("area(" + s + ", 0)", x.area(s, 0), 0);
            due("area(" + s + ", 1)", x.area(s, 1), 5);
            due("area(" + s + ", 9999)", x.area(s, 9999), 150);
            due("area(" + s + ", 10000)", x.area(s, 10000), 150);
        }
    }

    static void areaRefusesAnEndOutside() {
        for (int end : outside(0, 10000)) {
            due("area(1, " + end + ")", line().area(1, end), BAD);
            due("area(1, " + end + ") of none", new QueueNetwork().area(1, end), BAD);
        }
    }

    static void areaRefusesAStationOutside() {
        for (int s : outside(0, 3)) {
            due("area(" + s + ", 20)", line().area(s, 20), BAD);
            due("area(" + s + ", 0)", line().area(s, 0), BAD);
            due("area(" + s + ", 0) of none", new QueueNetwork().area(s, 0), BAD);
        }
    }

    static void areaRefusesBothOutside() {
        due("area(4, 10001)", line().area(4, 10001), BAD);
        due("area(-1, -1)", line().area(-1, -1), BAD);
    }

    static void areaEndsOneBeforeEnd() {
        QueueNetwork x = new QueueNetwork();
        add(x, 10, 2, 5);
        due("end before joining", x.area(2, 9), 0);
        due("end when joining", x.area(2, 10), 0);
        due("end after joining", x.area(2, 11), 1);
        due("end before leaving", x.area(2, 14), 4);
        due("end when leaving", x.area(2, 15), 5);
        due("end after leaving", x.area(2, 16), 5);
    }

    // Promises 12, 13 and 14: stays, busy and longest

    static void staysTakesEachStationAndNoOther() {
        for (int s = 0; s <= 3; s++) {
            QueueNetwork x = fiveAtOnce(s, 1);
            for (int other = 0; other <= 3; other++) {
                due("stays(" + other + ")", x.stays(other), other == s ? 150 : 0);
            }
        }
        for (int s : outside(0, 3)) {
            due("stays(" + s + ")", line().stays(s), BAD);
            due("stays(" + s + ") of none", new QueueNetwork().stays(s), BAD);
        }
    }

    static void busyTakesEachStationAndNoOther() {
        for (int s = 0; s <= 3; s++) {
            QueueNetwork x = fiveAtOnce(s, 1);
            for (int other = 0; other <= 3; other++) {
                due("busy(" + other + ")", x.busy(other), other == s ? 50 : 0);
            }
        }
        for (int s : outside(0, 3)) {
            due("busy(" + s + ")", line().busy(s), BAD);
            due("busy(" + s + ") of none", new QueueNetwork().busy(s), BAD);
        }
    }

    static void longestTakesEachStationAndNoOther() {
        for (int s = 0; s <= 3; s++) {
            QueueNetwork x = fiveAtOnce(s, 1);
            for (int other = 0; other <= 3; other++) {
                due("longest(" + other + ")", x.longest(other), other == s ? 4 : 0);
            }
        }
        for (int s : outside(0, 3)) {
            due("longest(" + s + ")", line().longest(s), BAD);
            due("longest(" + s + ") of none", new QueueNetwork().longest(s), BAD);
        }
    }

    static void busyCountsATimeOnceForSeveralServers() {
        due("busy(1) with two servers", fiveAtOnce(1, 2).busy(1), 30);
        due("busy(1) with three servers", fiveAtOnce(1, 3).busy(1), 20);
    }

    static void busyLeavesOutTheTimesBetween() {
        QueueNetwork x = new QueueNetwork();
        add(x, 0, 1, 1);
        add(x, 2, 1, 1);
        add(x, 100, 1, 30);
        due("busy(1)", x.busy(1), 32);
    }

    static void longestIsNothingWhenNobodyWaits() {
        QueueNetwork x = new QueueNetwork();
        add(x, 0, 1, 5);
        add(x, 5, 1, 5);
        due("longest(1)", x.longest(1), 0);
    }

    // Promise 15: last

    static void lastIsNothingWithoutCustomers() {
        due("last()", new QueueNetwork().last(), 0);
        QueueNetwork x = line();
        x.drop();
        x.drop();
        x.drop();
        due("last() after all are dropped", x.last(), 0);
    }

    static void lastOfOneIsItsLeaving() {
        for (int time : new int[] {0, 1, 99, 100}) {
            QueueNetwork x = new QueueNetwork();
            add(x, time);
            due("last()", x.last(), time);
        }
    }

    static void lastIsTheGreatestWhereverItStands() {
        for (int late = 0; late <= 11; late++) {
            QueueNetwork x = new QueueNetwork();
            for (int c = 0; c <= 11; c++) {
                add(x, c == late ? 90 : 10 + c);
            }
            due("last() when it is " + late, x.last(), 90);
        }
    }

    // Promise 16: order

    static void orderTakesEachOfTwelve() {
        QueueNetwork x = new QueueNetwork();
        for (int c = 0; c <= 11; c++) {
            add(x, 100 - 8 * c);
        }
        for (int k = 0; k <= 11; k++) {
            due("order(" + k + ")", x.order(k), 11 - k);
        }
    }

    static void orderRefusesANumberOutside() {
        for (int k : outside(0, 11)) {
            due("order(" + k + ") of twelve", twelve().order(k), BAD);
        }
        for (int k : outside(0, 2)) {
            due("order(" + k + ") of three", line().order(k), BAD);
        }
    }

    static void orderRefusesEveryNumberOfANewObject() {
        for (int k = -1; k <= 12; k++) {
            due("order(" + k + ")", new QueueNetwork().order(k), BAD);
        }
    }

    static void orderOfAllAtTheSameTimeIsByNumber() {
        QueueNetwork x = twelve();
        for (int k = 0; k <= 11; k++) {
            due("order(" + k + ")", x.order(k), k);
        }
    }

    // Promise 17: agree

    static void agreeTakesEachPairOfEngines() {
        for (int engine = 0; engine <= 3; engine++) {
            for (int other = 0; other <= 3; other++) {
                String call = "agree(" + engine + ", " + other + ")";
                due(call, line().agree(engine, other), true);
                due(call + " of none", new QueueNetwork().agree(engine, other), true);
                due(call + " without visits", twelve().agree(engine, other), true);
                due(call + " of the fullest", fullOf(2).agree(engine, other), true);
            }
        }
    }

    static void agreeRefusesAFirstEngineOutside() {
        for (int engine : outside(0, 3)) {
            for (int other = 0; other <= 3; other++) {
                due("agree(" + engine + ", " + other + ")", line().agree(engine, other), false);
                due("agree(" + engine + ", " + other + ") of none", new QueueNetwork().agree(engine, other), false);
            }
        }
    }

    static void agreeRefusesASecondEngineOutside() {
        for (int other : outside(0, 3)) {
            for (int engine = 0; engine <= 3; engine++) {
                due("agree(" + engine + ", " + other + ")", line().agree(engine, other), false);
                due("agree(" + engine + ", " + other + ") of none", new QueueNetwork().agree(engine, other), false);
            }
        }
    }

    static void agreeRefusesTheSameEngineOutsideTwice() {
        for (int engine : outside(0, 3)) {
            due("agree(" + engine + ", " + engine + ")", line().agree(engine, engine), false);
            due("agree(" + engine + ", " + engine + ") of none", new QueueNetwork().agree(engine, engine), false);
        }
    }

    // Promise 18: order and limits

    static void arriveTestsBadBeforeFull() {
        for (int time : outside(0, 100)) {
            due("arrive(" + time + ") when there are twelve", twelve().arrive(time), BAD);
        }
    }

    static void codesAreThoseOfTheFace() {
        due("BAD", QueueNetwork.BAD, -1);
        due("FULL", QueueNetwork.FULL, -2);
    }
}
