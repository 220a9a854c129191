import java.util.ArrayList;
import java.util.LinkedHashMap;
import java.util.List;
import java.util.Map;
import java.util.function.Supplier;
import java.util.function.ToIntFunction;

/**
 * A call that is refused, and a question, changes nothing: of two objects that
 * were made alike one is called once more, and both must show the same in all
 * calls that follow. The object stays within its 512 calls.
 */
public final class RefusedTest extends Checks {
    private static final int FALSE = 0;
    private static final int[] ENDS = {Integer.MIN_VALUE, Integer.MAX_VALUE};

    public static void main(String[] args) {
        runTests(RefusedTest.class);
    }

    /** Three customers with none, one and four visits; the stations have different servers and rules. */
    private static QueueNetwork someOfAll() {
        QueueNetwork x = new QueueNetwork();
        x.station(0, 1, 2);
        x.station(1, 2, 1);
        x.station(3, 1, 1);
        add(x, 7);
        add(x, 0, 0, 9);
        add(x, 0, 0, 9, 3, 2, 0, 3, 1, 4);
        return x;
    }

    /** Twelve customers with four visits each, who crowd the stations. */
    private static QueueNetwork crowd() {
        QueueNetwork x = new QueueNetwork();
        x.station(0, 2, 0);
        x.station(1, 1, 1);
        x.station(2, 1, 2);
        x.station(3, 3, 1);
        for (int c = 0; c < 12; c++) {
            add(x, c % 5, c % 4, 3 + c, (c + 1) % 4, 9, c % 3, 20 - c, (c * c) % 4, 1 + c % 6);
        }
        return x;
    }

    private static Map<String, Supplier<QueueNetwork>> states() {
        Map<String, Supplier<QueueNetwork>> states = new LinkedHashMap<>();
        states.put("a new object", QueueNetwork::new);
        states.put("a line", Checks::line);
        states.put("some of all", RefusedTest::someOfAll);
        states.put("twelve without visits", Checks::twelve);
        states.put("a crowd", RefusedTest::crowd);
        return states;
    }

    private static int number(boolean answer) {
        return answer ? 1 : FALSE;
    }

    private static void refusedEverywhere(String call, int want, ToIntFunction<QueueNetwork> made) {
        states().forEach((name, state) -> refused(call + " on " + name, state, want, made));
    }

    private static void refused(String call, Supplier<QueueNetwork> state, int want,
            ToIntFunction<QueueNetwork> made) {
        QueueNetwork called = state.get();
        due(call, made.applyAsInt(called), want);
        sameFromNowOn(call, called, state.get());
    }

    private static void sameFromNowOn(String call, QueueNetwork called, QueueNetwork spared) {
        List<String> got = allThatFollows(called);
        List<String> want = allThatFollows(spared);
        for (int i = 0; i < want.size(); i++) {
            if (!got.get(i).equals(want.get(i))) {
                fail("after " + call + ": " + got.get(i) + ", without it: " + want.get(i));
                return;
            }
        }
    }

    /** What an object shows as it is, when more is added to it, and when it is emptied and begun anew. */
    private static List<String> allThatFollows(QueueNetwork x) {
        List<String> seen = new ArrayList<>();
        look(x, seen);
        seen.add("arrive(50) = " + x.arrive(50));
        for (int c = 0; c <= 12; c++) {
            seen.add("visit(" + c + ", 1, 7) = " + x.visit(c, 1, 7));
        }
        look(x, seen);
        for (int i = 0; i <= 12; i++) {
            seen.add("drop() = " + x.drop());
        }
        for (int c = 0; c <= 3; c++) {
            seen.add("arrive(0) = " + x.arrive(0));
            seen.add("visit(" + c + ", " + c + ", 8) = " + x.visit(c, c, 8));
        }
        for (int s = 0; s <= 3; s++) {
            seen.add("stays(" + s + ") = " + x.stays(s));
        }
        seen.add("last() = " + x.last());
        return seen;
    }

    private static void look(QueueNetwork x, List<String> seen) {
        for (int c = 0; c <= 11; c++) {
            seen.add("leaves(" + c % 4 + ", " + c + ") = " + x.leaves(c % 4, c));
            seen.add("order(" + c + ") = " + x.order(c));
            for (int k = 0; k <= 3; k++) {
                seen.add("joins(" + c + ", " + k + ") = " + x.joins(c, k));
                seen.add("begins(" + c + ", " + k + ") = " + x.begins(c, k));
            }
        }
        for (int s = 0; s <= 3; s++) {
            seen.add("at(" + s + ", 4) = " + x.at(s, 4));
            seen.add("waits(" + s + ", 4) = " + x.waits(s, 4));
            seen.add("area(" + s + ", 40) = " + x.area(s, 40));
            seen.add("stays(" + s + ") = " + x.stays(s));
            seen.add("busy(" + s + ") = " + x.busy(s));
            seen.add("longest(" + s + ") = " + x.longest(s));
        }
        seen.add("last() = " + x.last());
        seen.add("agree(1, 2) = " + x.agree(1, 2));
    }

    // Promise 2: station

    static void aStationOutsideChangesNothing() {
        for (int s : new int[] {Integer.MIN_VALUE, -1, 4, Integer.MAX_VALUE}) {
            refusedEverywhere("station(" + s + ", 3, 1)", FALSE, x -> number(x.station(s, 3, 1)));
        }
    }

    static void serversOutsideDoNotChangeTheRule() {
        for (int servers : new int[] {Integer.MIN_VALUE, -1, 0, 4, Integer.MAX_VALUE}) {
            for (int s = 0; s <= 3; s++) {
                int station = s;
                for (int rule = 0; rule <= 2; rule++) {
                    int given = rule;
                    refusedEverywhere("station(" + s + ", " + servers + ", " + rule + ")", FALSE,
                            x -> number(x.station(station, servers, given)));
                }
            }
        }
    }

    static void aRuleOutsideDoesNotChangeTheServers() {
        for (int rule : new int[] {Integer.MIN_VALUE, -1, 3, Integer.MAX_VALUE}) {
            for (int s = 0; s <= 3; s++) {
                int station = s;
                for (int servers = 1; servers <= 3; servers++) {
                    int given = servers;
                    refusedEverywhere("station(" + s + ", " + servers + ", " + rule + ")", FALSE,
                            x -> number(x.station(station, given, rule)));
                }
            }
        }
    }

    // Promise 3: arrive

    static void anArrivalOutsideChangesNothing() {
        for (int time : new int[] {Integer.MIN_VALUE, -1, 101, Integer.MAX_VALUE}) {
            refusedEverywhere("arrive(" + time + ")", BAD, x -> x.arrive(time));
        }
    }

    static void anArrivalWhenThereAreTwelveChangesNothing() {
        for (int time : new int[] {0, 50, 100}) {
            refused("arrive(" + time + ") on twelve", Checks::twelve, FULL, x -> x.arrive(time));
            refused("arrive(" + time + ") on a crowd", RefusedTest::crowd, FULL, x -> x.arrive(time));
        }
    }

    // Promise 4: visit

    static void aVisitOfNobodyChangesNothing() {
        for (int c : new int[] {Integer.MIN_VALUE, -1, 12, 1 << 30, Integer.MAX_VALUE}) {
            refusedEverywhere("visit(" + c + ", 1, 5)", BAD, x -> x.visit(c, 1, 5));
        }
        refused("visit(0, 1, 5) on a new object", QueueNetwork::new, BAD, x -> x.visit(0, 1, 5));
        refused("visit(3, 1, 5) on a line", Checks::line, BAD, x -> x.visit(3, 1, 5));
        refused("visit(3, 1, 5) on some of all", RefusedTest::someOfAll, BAD, x -> x.visit(3, 1, 5));
    }

    static void aVisitToAStationOutsideChangesNothing() {
        for (int s : new int[] {Integer.MIN_VALUE, -1, 4, Integer.MAX_VALUE}) {
            for (int c = 0; c <= 2; c++) {
                int customer = c;
                refusedEverywhere("visit(" + c + ", " + s + ", 5)", BAD, x -> x.visit(customer, s, 5));
            }
        }
    }

    static void aVisitWithANeedOutsideChangesNothing() {
        for (int need : new int[] {Integer.MIN_VALUE, -1, 0, 31, Integer.MAX_VALUE}) {
            for (int c = 0; c <= 2; c++) {
                int customer = c;
                refusedEverywhere("visit(" + c + ", 1, " + need + ")", BAD, x -> x.visit(customer, 1, need));
            }
        }
    }

    static void aFifthVisitChangesNothing() {
        for (int s = 0; s <= 3; s++) {
            int station = s;
            refused("visit(2, " + s + ", 1)", RefusedTest::someOfAll, FULL, x -> x.visit(2, station, 1));
            for (int c = 0; c <= 11; c++) {
                int customer = c;
                refused("visit(" + c + ", " + s + ", 30)", RefusedTest::crowd, FULL,
                        x -> x.visit(customer, station, 30));
            }
        }
    }

    // Promise 5: drop

    static void aDropOfNobodyChangesNothing() {
        refused("drop() on a new object", QueueNetwork::new, BAD, x -> x.drop());
    }

    static void aDropOfNobodyLeavesTheStations() {
        Supplier<QueueNetwork> emptied = () -> {
            QueueNetwork x = someOfAll();
            x.drop();
            x.drop();
            x.drop();
            return x;
        };
        refused("drop() when all are dropped", emptied, BAD, x -> x.drop());
    }

    // Promises 6 to 17: the questions that are refused

    static void refusedLeavesChangesNothing() {
        for (int engine : new int[] {-1, 4}) {
            refusedEverywhere("leaves(" + engine + ", 0)", BAD, x -> x.leaves(engine, 0));
        }
        for (int c : new int[] {-1, 12}) {
            refusedEverywhere("leaves(0, " + c + ")", BAD, x -> x.leaves(0, c));
        }
        for (int end : ENDS) {
            refusedEverywhere("leaves(" + end + ", 0)", BAD, x -> x.leaves(end, 0));
            refusedEverywhere("leaves(3, " + end + ")", BAD, x -> x.leaves(3, end));
        }
    }

    static void refusedJoinsAndBeginsChangeNothing() {
        for (int out : new int[] {Integer.MIN_VALUE, -1, 12, Integer.MAX_VALUE}) {
            refusedEverywhere("joins(" + out + ", 0)", BAD, x -> x.joins(out, 0));
            refusedEverywhere("joins(0, " + out + ")", BAD, x -> x.joins(0, out));
            refusedEverywhere("begins(" + out + ", 0)", BAD, x -> x.begins(out, 0));
            refusedEverywhere("begins(0, " + out + ")", BAD, x -> x.begins(0, out));
        }
        refusedEverywhere("joins(0, 4)", BAD, x -> x.joins(0, 4));
        refusedEverywhere("begins(0, 4)", BAD, x -> x.begins(0, 4));
    }

    static void refusedAtWaitsAndAreaChangeNothing() {
        for (int s : new int[] {Integer.MIN_VALUE, -1, 4, Integer.MAX_VALUE}) {
            refusedEverywhere("at(" + s + ", 5)", BAD, x -> x.at(s, 5));
            refusedEverywhere("waits(" + s + ", 5)", BAD, x -> x.waits(s, 5));
            refusedEverywhere("area(" + s + ", 5)", BAD, x -> x.area(s, 5));
        }
        for (int t : new int[] {Integer.MIN_VALUE, -1, 10001, Integer.MAX_VALUE}) {
            refusedEverywhere("at(0, " + t + ")", BAD, x -> x.at(0, t));
            refusedEverywhere("waits(0, " + t + ")", BAD, x -> x.waits(0, t));
            refusedEverywhere("area(0, " + t + ")", BAD, x -> x.area(0, t));
        }
    }

    static void refusedStaysBusyAndLongestChangeNothing() {
        for (int s : new int[] {Integer.MIN_VALUE, -1, 4, Integer.MAX_VALUE}) {
            refusedEverywhere("stays(" + s + ")", BAD, x -> x.stays(s));
            refusedEverywhere("busy(" + s + ")", BAD, x -> x.busy(s));
            refusedEverywhere("longest(" + s + ")", BAD, x -> x.longest(s));
        }
    }

    static void refusedOrderChangesNothing() {
        for (int k : new int[] {Integer.MIN_VALUE, -1, 12, Integer.MAX_VALUE}) {
            refusedEverywhere("order(" + k + ")", BAD, x -> x.order(k));
        }
        refused("order(0) on a new object", QueueNetwork::new, BAD, x -> x.order(0));
    }

    static void refusedAgreeChangesNothing() {
        for (int out : new int[] {Integer.MIN_VALUE, -1, 4, Integer.MAX_VALUE}) {
            refusedEverywhere("agree(" + out + ", 0)", FALSE, x -> number(x.agree(out, 0)));
            refusedEverywhere("agree(3, " + out + ")", FALSE, x -> number(x.agree(3, out)));
            refusedEverywhere("agree(" + out + ", " + out + ")", FALSE, x -> number(x.agree(out, out)));
        }
    }

    static void severalRefusalsInARowChangeNothing() {
        states().forEach((name, state) -> {
            QueueNetwork called = state.get();
            for (int i = 0; i < 5; i++) {
                due("arrive(101)", called.arrive(101), BAD);
                due("visit(12, 0, 1)", called.visit(12, 0, 1), BAD);
                due("visit(0, 0, 31)", called.visit(0, 0, 31), BAD);
                due("station(0, 4, 1)", called.station(0, 4, 1), false);
            }
            sameFromNowOn("several refusals on " + name, called, state.get());
        });
    }

    static void aQuestionThatIsAnsweredChangesNothing() {
        states().forEach((name, state) -> {
            QueueNetwork called = state.get();
            for (int engine = 0; engine <= 3; engine++) {
                called.leaves(engine, 0);
                called.agree(engine, 3 - engine);
                called.at(engine, 10000);
                called.waits(engine, 0);
                called.area(engine, 10000);
                called.stays(engine);
                called.busy(engine);
                called.longest(engine);
                called.joins(engine, 0);
                called.begins(engine, 0);
                called.order(engine);
            }
            called.last();
            sameFromNowOn("questions on " + name, called, state.get());
        });
    }
}
