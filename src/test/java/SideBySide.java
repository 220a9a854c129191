/** A program and a model that get the same calls; every answer of the program must be the model's. */
final class SideBySide {
    private final String name;
    private final QueueNetwork program = new QueueNetwork();
    private final Model model = new Model();
    private final StringBuilder story = new StringBuilder();
    private int calls = 0;
    private int wrong = 0;

    SideBySide(String name) {
        this.name = name;
    }

    int calls() {
        return calls;
    }

    int wrong() {
        return wrong;
    }

    int customers() {
        return model.customers();
    }

    /** Of the model alone, so it is not a call. */
    int lastDue() {
        return model.last();
    }

    void station(int s, int servers, int rule) {
        due("station(" + s + ", " + servers + ", " + rule + ")",
                program.station(s, servers, rule), model.station(s, servers, rule));
    }

    void arrive(int time) {
        due("arrive(" + time + ")", program.arrive(time), model.arrive(time));
    }

    void visit(int c, int s, int need) {
        due("visit(" + c + ", " + s + ", " + need + ")", program.visit(c, s, need), model.visit(c, s, need));
    }

    void drop() {
        due("drop()", program.drop(), model.drop());
    }

    void leaves(int engine, int c) {
        due("leaves(" + engine + ", " + c + ")", program.leaves(engine, c), model.leaves(engine, c));
    }

    void joins(int c, int k) {
        due("joins(" + c + ", " + k + ")", program.joins(c, k), model.joins(c, k));
    }

    void begins(int c, int k) {
        due("begins(" + c + ", " + k + ")", program.begins(c, k), model.begins(c, k));
    }

    void at(int s, int t) {
        due("at(" + s + ", " + t + ")", program.at(s, t), model.at(s, t));
    }

    void waits(int s, int t) {
        due("waits(" + s + ", " + t + ")", program.waits(s, t), model.waits(s, t));
    }

    void area(int s, int end) {
        due("area(" + s + ", " + end + ")", program.area(s, end), model.area(s, end));
    }

    void stays(int s) {
        due("stays(" + s + ")", program.stays(s), model.stays(s));
    }

    void busy(int s) {
        due("busy(" + s + ")", program.busy(s), model.busy(s));
    }

    void longest(int s) {
        due("longest(" + s + ")", program.longest(s), model.longest(s));
    }

    void last() {
        due("last()", program.last(), model.last());
    }

    void order(int k) {
        due("order(" + k + ")", program.order(k), model.order(k));
    }

    void agree(int engine, int other) {
        due("agree(" + engine + ", " + other + ")", program.agree(engine, other), model.agree(engine, other));
    }

    private void due(String call, boolean got, boolean want) {
        due(call, got ? 1 : 0, want ? 1 : 0);
    }

    private void due(String call, int got, int want) {
        calls++;
        if (got != want) {
            if (wrong == 0) {
                System.out.println(name + ":" + story);
            }
            wrong++;
            System.out.println(name + ", call " + calls + ": " + call + " answered " + got + ", due is " + want);
        }
        story.append(' ').append(call);
    }
}
