/** One method for each promise of the document: ordinary inputs, the named edges and wrong inputs. */
public final class PromisesTest extends Checks {
    private static final int[] OUTSIDE = {Integer.MIN_VALUE, -1, 1 << 30, Integer.MAX_VALUE};

    public static void main(String[] args) {
        runTests(PromisesTest.class);
    }

    static void newObject() {
        due("BAD", BAD, -1);
        due("FULL", FULL, -2);
        QueueNetwork x = new QueueNetwork();
        due("last()", x.last(), 0);
        due("drop()", x.drop(), BAD);
        due("order(0)", x.order(0), BAD);
        due("leaves(0, 0)", x.leaves(0, 0), BAD);
        due("agree(0, 3)", x.agree(0, 3), true);
        for (int s = 0; s < 4; s++) {
            due("at", x.at(s, 0), 0);
            due("waits", x.waits(s, 0), 0);
            due("area", x.area(s, 10000), 0);
            due("stays", x.stays(s), 0);
            due("busy", x.busy(s), 0);
            due("longest", x.longest(s), 0);
        }
        due("arrive(5)", x.arrive(5), 0);
        QueueNetwork y = new QueueNetwork();
        due("last() of another object", y.last(), 0);
        for (int s = 0; s < 4; s++) {
            QueueNetwork z = new QueueNetwork();
            add(z, 0, s, 9);
            add(z, 1, s, 8);
            add(z, 2, s, 7);
            due("one server and rule 0 at first", z.leaves(0, 1), 17);
            due("one server and rule 0 at first", z.leaves(0, 2), 24);
        }
    }

    static void station() {
        for (int s = 0; s < 4; s++) {
            serversOf(s);
            rulesOf(s);
        }
        QueueNetwork x = line();
        for (int out : OUTSIDE) {
            due("station out", x.station(out, 3, 1), false);
            due("servers out", x.station(1, out, 1), false);
            due("rule out", x.station(1, 3, out), false);
        }
        due("station(4, 3, 1)", x.station(4, 3, 1), false);
        due("station(1, 0, 1)", x.station(1, 0, 1), false);
        due("station(1, 4, 1)", x.station(1, 4, 1), false);
        due("station(1, 3, 3)", x.station(1, 3, 3), false);
        due("station(1, 3, -1)", x.station(1, 3, -1), false);
        dueLeaves(x, 1, 15);
        dueLeaves(x, 2, 17);
        due("station(1, 3, 1)", x.station(1, 3, 1), true);
        dueLeaves(x, 1, 13);
        dueLeaves(x, 2, 6);
        due("station(1, 1, 0)", x.station(1, 1, 0), true);
        dueLeaves(x, 2, 17);
    }

    private static void serversOf(int s) {
        for (int servers = 1; servers <= 3; servers++) {
            QueueNetwork x = new QueueNetwork();
            due("station", x.station(s, servers, 0), true);
            for (int c = 0; c < 6; c++) {
                add(x, 0, s, 10);
            }
            due("waits with " + servers + " servers", x.waits(s, 0), 6 - servers);
            due("last with " + servers + " servers", x.last(), 60 / servers);
        }
    }

    /** Customers 1, 2 and 3 join at 3, 1 and 2 with needs 5, 4 and 3, while customer 0 is served. */
    private static void rulesOf(int s) {
        int[][] begins = {{0, 17, 10, 14}, {0, 10, 18, 15}, {0, 17, 13, 10}};
        for (int rule = 0; rule < 3; rule++) {
            QueueNetwork x = new QueueNetwork();
            due("station", x.station(s, 1, rule), true);
            add(x, 0, s, 10);
            add(x, 3, s, 5);
            add(x, 1, s, 4);
            add(x, 2, s, 3);
            for (int c = 0; c < 4; c++) {
                due("begins by rule " + rule + " of " + c, x.begins(c, 0), begins[rule][c]);
            }
        }
        tiesOf(s);
    }

    /** Customers 1, 2 and 3 join at the same time while customer 0 is served. */
    private static void tiesOf(int s) {
        int[][] begins = {{0, 10, 14, 18}, {0, 18, 14, 10}, {0, 10, 14, 18}};
        for (int rule = 0; rule < 3; rule++) {
            QueueNetwork x = new QueueNetwork();
            x.station(s, 1, rule);
            add(x, 0, s, 10);
            add(x, 5, s, 4);
            add(x, 5, s, 4);
            add(x, 5, s, 4);
            for (int c = 0; c < 4; c++) {
                due("begins in a tie by rule " + rule + " of " + c, x.begins(c, 0), begins[rule][c]);
            }
        }
        QueueNetwork x = new QueueNetwork();
        x.station(s, 1, 2);
        add(x, 0, s, 10);
        add(x, 8, s, 4);
        add(x, 5, s, 4);
        due("least need, joined first", x.begins(2, 0), 10);
        due("least need, joined later", x.begins(1, 0), 14);
    }

    static void arrive() {
        QueueNetwork x = new QueueNetwork();
        for (int out : OUTSIDE) {
            due("arrive(" + out + ")", x.arrive(out), BAD);
        }
        due("arrive(101)", x.arrive(101), BAD);
        due("order(0)", x.order(0), BAD);
        due("arrive(0)", x.arrive(0), 0);
        due("arrive(100)", x.arrive(100), 1);
        for (int c = 2; c < 12; c++) {
            due("arrive(" + 5 * c + ")", x.arrive(5 * c), c);
        }
        due("the thirteenth", x.arrive(7), FULL);
        dueLeaves(x, 0, 0);
        dueLeaves(x, 1, 100);
        for (int c = 2; c < 12; c++) {
            dueLeaves(x, c, 5 * c);
        }
        dueLeaves(x, 12, BAD);
        due("drop()", x.drop(), 11);
        due("arrive after drop", x.arrive(9), 11);
        dueLeaves(x, 11, 9);
    }

    static void visit() {
        QueueNetwork x = new QueueNetwork();
        due("visit without customers", x.visit(0, 0, 1), BAD);
        x.arrive(10);
        for (int out : OUTSIDE) {
            due("visit c out", x.visit(out, 0, 1), BAD);
            due("visit s out", x.visit(0, out, 1), BAD);
            due("visit need out", x.visit(0, 0, out), BAD);
        }
        due("visit(1, 0, 1)", x.visit(1, 0, 1), BAD);
        due("visit(0, 4, 1)", x.visit(0, 4, 1), BAD);
        due("visit(0, 0, 0)", x.visit(0, 0, 0), BAD);
        due("visit(0, 0, 31)", x.visit(0, 0, 31), BAD);
        dueLeaves(x, 0, 10);
        due("visit(0, 3, 1)", x.visit(0, 3, 1), 1);
        due("visit(0, 0, 30)", x.visit(0, 0, 30), 2);
        x.arrive(20);
        due("visit(1, 2, 7)", x.visit(1, 2, 7), 1);
        due("visit(0, 0, 2)", x.visit(0, 0, 2), 3);
        due("visit(0, 1, 4)", x.visit(0, 1, 4), 4);
        dueLeaves(x, 0, 47);
        dueLeaves(x, 1, 27);
        due("the fifth", x.visit(0, 1, 4), FULL);
        due("the fifth, station out", x.visit(0, 4, 4), BAD);
        due("the fifth, need out", x.visit(0, 1, 31), BAD);
        due("the fifth, need 0", x.visit(0, 1, 0), BAD);
        dueLeaves(x, 0, 47);
        due("at(3, 10)", x.at(3, 10), 1);
        due("at(0, 11)", x.at(0, 11), 1);
        due("at(1, 43)", x.at(1, 43), 1);
    }

    static void drop() {
        QueueNetwork x = line();
        due("drop()", x.drop(), 2);
        due("last()", x.last(), 15);
        dueLeaves(x, 2, BAD);
        due("joins of the dropped", x.joins(2, 0), BAD);
        due("visit of the dropped", x.visit(2, 0, 1), BAD);
        due("arrive(60)", x.arrive(60), 2);
        due("joins of the new one", x.joins(2, 0), BAD);
        dueLeaves(x, 2, 60);
        due("visit of the new one", x.visit(2, 0, 6), 1);
        dueLeaves(x, 2, 66);
        due("drop()", x.drop(), 2);
        due("drop()", x.drop(), 1);
        due("drop()", x.drop(), 0);
        due("drop() of none", x.drop(), BAD);
        due("last()", x.last(), 0);
        due("stays(1)", x.stays(1), 0);
        due("arrive(1)", x.arrive(1), 0);
        QueueNetwork y = line();
        y.station(1, 3, 0);
        y.drop();
        add(y, 3, 1, 10);
        due("the station stays as it is", y.leaves(0, 2), 13);
    }

    static void leaves() {
        QueueNetwork x = line();
        dueLeaves(x, 0, 5);
        dueLeaves(x, 1, 15);
        dueLeaves(x, 2, 17);
        dueLeaves(x, 3, BAD);
        for (int out : OUTSIDE) {
            dueLeaves(x, out, BAD);
            due("leaves engine out", x.leaves(out, 0), BAD);
        }
        due("leaves(4, 0)", x.leaves(4, 0), BAD);
        due("leaves(4, 3)", x.leaves(4, 3), BAD);
    }

    /** The latest time that any plan can reach. */
    static void longestRun() {
        QueueNetwork x = new QueueNetwork();
        for (int c = 0; c < 12; c++) {
            add(x, 100, 0, 30, 0, 30, 0, 30, 0, 30);
        }
        dueLeaves(x, 11, 1540);
        dueLeaves(x, 0, 1210);
        due("last()", x.last(), 1540);
        due("busy(0)", x.busy(0), 1440);
        due("agree(0, 1)", x.agree(0, 1), true);
        due("agree(2, 3)", x.agree(2, 3), true);
        due("at(0, 1539)", x.at(0, 1539), 1);
        due("at(0, 1540)", x.at(0, 1540), 0);
        due("stays(0)", x.stays(0), x.area(0, 10000));
    }

    /** A service that ends frees its server for those who join at the same time. */
    static void handOver() {
        QueueNetwork x = new QueueNetwork();
        x.station(1, 1, 1);
        add(x, 0, 1, 5, 1, 2);
        add(x, 5, 1, 4);
        add(x, 1, 0, 4, 1, 3);
        due("begins(2, 1)", x.begins(2, 1), 5);
        due("begins(1, 0)", x.begins(1, 0), 8);
        due("begins(0, 1)", x.begins(0, 1), 12);
        dueLeaves(x, 0, 14);
        dueLeaves(x, 1, 12);
        dueLeaves(x, 2, 8);
    }

    static void joins() {
        QueueNetwork x = line();
        due("visit", x.visit(1, 2, 4), 2);
        due("joins(0, 0)", x.joins(0, 0), 2);
        due("joins(1, 0)", x.joins(1, 0), 3);
        due("joins(1, 1)", x.joins(1, 1), 15);
        due("joins(2, 0)", x.joins(2, 0), 4);
        due("joins(0, 1)", x.joins(0, 1), BAD);
        due("joins(1, 2)", x.joins(1, 2), BAD);
        due("joins(3, 0)", x.joins(3, 0), BAD);
        for (int out : OUTSIDE) {
            due("joins c out", x.joins(out, 0), BAD);
            due("joins k out", x.joins(0, out), BAD);
            due("joins k out", x.joins(1, out), BAD);
        }
    }

    static void begins() {
        QueueNetwork x = line();
        due("visit", x.visit(1, 2, 4), 2);
        add(x, 14, 2, 8);
        due("begins(0, 0)", x.begins(0, 0), 2);
        due("begins(1, 0)", x.begins(1, 0), 5);
        due("begins(1, 1)", x.begins(1, 1), 22);
        due("begins(2, 0)", x.begins(2, 0), 15);
        due("begins(0, 1)", x.begins(0, 1), BAD);
        due("begins(1, 2)", x.begins(1, 2), BAD);
        due("begins(4, 0)", x.begins(4, 0), BAD);
        for (int out : OUTSIDE) {
            due("begins c out", x.begins(out, 0), BAD);
            due("begins k out", x.begins(0, out), BAD);
            due("begins k out", x.begins(1, out), BAD);
        }
    }

    static void at() {
        QueueNetwork x = line();
        int[] want = {0, 0, 1, 2, 3, 2, 2, 2, 2, 2, 2, 2, 2, 2, 2, 1, 1, 0, 0};
        for (int t = 0; t < want.length; t++) {
            due("at(1, " + t + ")", x.at(1, t), want[t]);
            due("at(0, " + t + ")", x.at(0, t), 0);
        }
        due("at(1, 10000)", x.at(1, 10000), 0);
        due("at(1, 10001)", x.at(1, 10001), BAD);
        due("at(4, 5)", x.at(4, 5), BAD);
        for (int out : OUTSIDE) {
            due("at s out", x.at(out, 5), BAD);
            due("at t out", x.at(1, out), BAD);
        }
        QueueNetwork y = new QueueNetwork();
        add(y, 0, 0, 3, 0, 3);
        due("one that joins again counts once", y.at(0, 3), 1);
        due("at(0, 0)", y.at(0, 0), 1);
    }

    static void waits() {
        QueueNetwork x = line();
        int[] want = {0, 0, 0, 1, 2, 1, 1, 1, 1, 1, 1, 1, 1, 1, 1, 0, 0, 0, 0};
        for (int t = 0; t < want.length; t++) {
            due("waits(1, " + t + ")", x.waits(1, t), want[t]);
            due("waits(0, " + t + ")", x.waits(0, t), 0);
        }
        due("customer 0 waits", waitOfFirst().waits(1, 6), 1);
        due("waits(1, 10000)", x.waits(1, 10000), 0);
        due("waits(1, 10001)", x.waits(1, 10001), BAD);
        due("waits(4, 5)", x.waits(4, 5), BAD);
        for (int out : OUTSIDE) {
            due("waits s out", x.waits(out, 5), BAD);
            due("waits t out", x.waits(1, out), BAD);
        }
    }

    static void area() {
        QueueNetwork x = line();
        int sum = 0;
        for (int end = 0; end < 20; end++) {
            due("area(1, " + end + ")", x.area(1, end), sum);
            due("area(2, " + end + ")", x.area(2, end), 0);
            sum += x.at(1, end);
        }
        due("area(1, 10000)", x.area(1, 10000), 28);
        due("area(1, 10001)", x.area(1, 10001), BAD);
        due("area(4, 5)", x.area(4, 5), BAD);
        for (int out : OUTSIDE) {
            due("area s out", x.area(out, 5), BAD);
            due("area end out", x.area(1, out), BAD);
        }
    }

    static void stays() {
        QueueNetwork x = line();
        due("stays(1)", x.stays(1), 28);
        due("stays(0)", x.stays(0), 0);
        x.visit(0, 1, 1);
        due("stays(1) with a second visit", x.stays(1), 41);
        x.visit(0, 3, 6);
        due("stays(3)", x.stays(3), 6);
        due("stays(4)", x.stays(4), BAD);
        for (int out : OUTSIDE) {
            due("stays out", x.stays(out), BAD);
        }
    }

    static void busy() {
        QueueNetwork x = line();
        add(x, 30, 1, 5);
        due("busy(1)", x.busy(1), 20);
        due("busy(0)", x.busy(0), 0);
        x.station(1, 3, 0);
        due("busy(1) with three servers", x.busy(1), 16);
        due("busy(4)", x.busy(4), BAD);
        due("busy from time 0 on", waitOfFirst().busy(1), 11);
        for (int out : OUTSIDE) {
            due("busy out", x.busy(out), BAD);
        }
    }

    static void longest() {
        QueueNetwork x = line();
        due("longest(1)", x.longest(1), 2);
        due("longest(0)", x.longest(0), 0);
        x.station(1, 2, 0);
        due("longest(1) with two servers", x.longest(1), 1);
        x.station(1, 3, 0);
        due("longest(1) with three servers", x.longest(1), 0);
        due("longest(4)", x.longest(4), BAD);
        for (int out : OUTSIDE) {
            due("longest out", x.longest(out), BAD);
        }
        QueueNetwork y = new QueueNetwork();
        add(y, 0, 0, 5);
        add(y, 1, 0, 5);
        add(y, 5, 0, 5);
        due("one begins as another joins", y.longest(0), 1);
        QueueNetwork z = new QueueNetwork();
        add(z, 0, 0, 1);
        add(z, 0, 0, 1);
        due("one waits at time 0 alone", z.longest(0), 1);
        due("one waits for customer 0", waitOfFirst().longest(1), 1);
    }

    /** Customer 0 waits for customer 1, who is served 0..7. */
    private static QueueNetwork waitOfFirst() {
        QueueNetwork x = new QueueNetwork();
        add(x, 1, 1, 4);
        add(x, 0, 1, 7);
        return x;
    }

    static void last() {
        QueueNetwork x = new QueueNetwork();
        due("last() of none", x.last(), 0);
        x.arrive(0);
        due("last() at 0", x.last(), 0);
        x.arrive(40);
        x.arrive(12);
        due("last() without visits", x.last(), 40);
        x.visit(2, 0, 29);
        due("last()", x.last(), 41);
        x.drop();
        due("last() after drop", x.last(), 40);
        due("customer 0 is the last", waitOfFirst().last(), 11);
    }

    static void order() {
        QueueNetwork x = new QueueNetwork();
        add(x, 9, 0, 11);
        add(x, 20);
        add(x, 3, 1, 2);
        add(x, 20);
        add(x, 0, 2, 30);
        int[] want = {2, 0, 1, 3, 4};
        for (int k = 0; k < want.length; k++) {
            due("order(" + k + ")", x.order(k), want[k]);
        }
        due("order(5)", x.order(5), BAD);
        for (int out : OUTSIDE) {
            due("order out", x.order(out), BAD);
        }
    }

    static void agree() {
        QueueNetwork x = line();
        for (int engine = 0; engine < 4; engine++) {
            for (int other = 0; other < 4; other++) {
                due("agree(" + engine + ", " + other + ")", x.agree(engine, other), true);
            }
            due("agree(" + engine + ", 4)", x.agree(engine, 4), false);
            due("agree(4, " + engine + ")", x.agree(4, engine), false);
            for (int out : OUTSIDE) {
                due("agree out", x.agree(engine, out), false);
                due("agree out", x.agree(out, engine), false);
                due("agree out", x.agree(out, out), false);
            }
        }
        due("agree(4, 4)", x.agree(4, 4), false);
    }

    static void orderAndLimits() {
        QueueNetwork x = line();
        for (int c = 3; c < 12; c++) {
            x.arrive(50);
        }
        due("arrive(101) when full", x.arrive(101), BAD);
        due("arrive(-1) when full", x.arrive(-1), BAD);
        due("arrive(50) when full", x.arrive(50), FULL);
        refuse(x);
        due("drop()", x.drop(), 11);
        dueLeaves(x, 0, 5);
        dueLeaves(x, 1, 15);
        dueLeaves(x, 2, 17);
        due("stays(1)", x.stays(1), 28);
        due("last()", x.last(), 50);
        due("arrive(50)", x.arrive(50), 11);
    }

    private static void refuse(QueueNetwork x) {
        due("station", x.station(1, 2, 3), false);
        due("station", x.station(1, 4, 1), false);
        due("visit", x.visit(1, 1, 31), BAD);
        due("visit", x.visit(1, 4, 3), BAD);
        due("leaves", x.leaves(4, 1), BAD);
        due("joins", x.joins(1, 1), BAD);
        due("begins", x.begins(1, 1), BAD);
        due("at", x.at(1, -1), BAD);
        due("waits", x.waits(1, -1), BAD);
        due("area", x.area(1, -1), BAD);
        due("stays", x.stays(-1), BAD);
        due("busy", x.busy(-1), BAD);
        due("longest", x.longest(-1), BAD);
        due("order", x.order(12), BAD);
        due("agree", x.agree(4, 0), false);
    }

    /** Each answer fits the plan as it is, whether or not another question came before. */
    static void askedFirst() {
        due("leaves(3, 1)", line().leaves(3, 1), 15);
        due("joins(1, 0)", line().joins(1, 0), 3);
        due("begins(1, 0)", line().begins(1, 0), 5);
        due("at(1, 4)", line().at(1, 4), 3);
        due("waits(1, 4)", line().waits(1, 4), 2);
        due("area(1, 5)", line().area(1, 5), 6);
        due("stays(1)", line().stays(1), 28);
        due("busy(1)", line().busy(1), 15);
        due("longest(1)", line().longest(1), 2);
        due("last()", line().last(), 17);
        due("order(2)", line().order(2), 2);
        due("agree(1, 2)", line().agree(1, 2), true);
        QueueNetwork x = line();
        x.last();
        x.station(1, 3, 0);
        due("area after a change", x.area(1, 10000), 15);
        x.station(1, 1, 0);
        due("stays after a change", x.stays(1), 28);
    }

    static void exampleOfTheReadme() {
        QueueNetwork network = new QueueNetwork();
        network.station(0, 1, 2);
        int a = network.arrive(0);
        network.visit(a, 0, 10);
        network.visit(a, 3, 5);
        int b = network.arrive(4);
        network.visit(b, 0, 2);
        due("leaves(0, a)", network.leaves(0, a), 15);
        due("begins(b, 0)", network.begins(b, 0), 10);
        due("waits(0, 7)", network.waits(0, 7), 1);
        due("order(0)", network.order(0), 1);
        due("last()", network.last(), 15);
        due("agree(0, 3)", network.agree(0, 3), true);
    }
}
