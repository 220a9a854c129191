import java.lang.reflect.InvocationTargetException;
import java.lang.reflect.Method;
import java.lang.reflect.Modifier;
import java.util.Arrays;
import java.util.Comparator;
import java.util.Set;
import java.util.TreeSet;

/**
 * What the tests share. A test class extends this one and hands itself to
 * runTests; each of its static methods that is not private, answers nothing
 * and takes nothing is a test of its own.
 */
abstract class Checks {
    static final int BAD = QueueNetwork.BAD;
    static final int FULL = QueueNetwork.FULL;

    private static final long MOST_MILLISECONDS = 180_000;

    private static volatile String test = "";
    private static int wrong = 0;

    static void runTests(Class<?> tests) {
        failIfItDoesNotEnd();
        Method[] methods = tests.getDeclaredMethods();
        Arrays.sort(methods, Comparator.comparing(Method::getName));
        int ran = 0;
        int failed = 0;
        for (Method method : methods) {
            if (isTest(method)) {
                int before = wrong;
                run(method);
                ran++;
                failed += wrong == before ? 0 : 1;
            }
        }
        System.out.println(ran + " tests, " + failed + " failed");
        if (ran == 0 || failed != 0) {
            System.exit(1);
        }
    }

    private static boolean isTest(Method method) {
        return Modifier.isStatic(method.getModifiers()) && !Modifier.isPrivate(method.getModifiers())
                && method.getReturnType() == void.class && method.getParameterCount() == 0
                && !method.isSynthetic();
    }

    private static void run(Method method) {
        test = method.getName();
        try {
            method.invoke(null);
        } catch (InvocationTargetException thrown) {
            fail("threw " + thrown.getCause());
        } catch (IllegalAccessException barred) {
            fail("can't be called: " + barred);
        }
    }

    /** A call that doesn't end must fail its test, not hold up the tests for ever. */
    static void failIfItDoesNotEnd() {
        Thread watch = new Thread(() -> {
            try {
                Thread.sleep(MOST_MILLISECONDS);
            } catch (InterruptedException woken) {
                return;
            }
            System.out.println(test + ": does not end");
            Runtime.getRuntime().halt(1);
        });
        watch.setDaemon(true);
        watch.start();
    }

    static void fail(String what) {
        wrong++;
        System.out.println(test + ": " + what);
    }

    static void due(String call, int got, int want) {
        if (got != want) {
            fail(call + " answered " + got + ", due is " + want);
        }
    }

    static void due(String call, boolean got, boolean want) {
        if (got != want) {
            fail(call + " answered " + got + ", due is " + want);
        }
    }

    /** Every engine must answer the same. */
    static void dueLeaves(QueueNetwork x, int c, int want) {
        for (int engine = 0; engine < 4; engine++) {
            due("leaves(" + engine + ", " + c + ")", x.leaves(engine, c), want);
        }
    }

    /** Adds a customer with visits given as station, need, station, need, .. */
    static void add(QueueNetwork x, int time, int... visits) {
        int c = x.arrive(time);
        if (c < 0) {
            fail("arrive(" + time + ") in add answered " + c);
        }
        for (int i = 0; i < visits.length; i += 2) {
            due("visit in add", x.visit(c, visits[i], visits[i + 1]), i / 2 + 1);
        }
    }

    /** Three customers that need one server of station 1: served 2..5, 5..15, 15..17. */
    static QueueNetwork line() {
        QueueNetwork x = new QueueNetwork();
        add(x, 2, 1, 3);
        add(x, 3, 1, 10);
        add(x, 4, 1, 2);
        return x;
    }

    /** Twelve customers without visits, who arrive at 50. */
    static QueueNetwork twelve() {
        QueueNetwork x = new QueueNetwork();
        for (int c = 0; c < 12; c++) {
            add(x, 50);
        }
        return x;
    }

    /** Twelve customers that arrive at 100, each with four visits of need 30 to station s. */
    static QueueNetwork fullOf(int s) {
        QueueNetwork x = new QueueNetwork();
        for (int c = 0; c < 12; c++) {
            add(x, 100, s, 30, s, 30, s, 30, s, 30);
        }
        return x;
    }

    /**
     * Numbers outside of least .. greatest: the two just outside, the least
     * and the greatest int, and all that a wrapped product, a shift, a mask or
     * a cut to fewer bits could take for a bound of the range.
     */
    static Set<Integer> outside(int least, int greatest) {
        Set<Integer> found = new TreeSet<>();
        found.add(least - 1);
        found.add(greatest + 1);
        found.add(Integer.MIN_VALUE);
        found.add(Integer.MIN_VALUE + 1);
        found.add(Integer.MAX_VALUE - 1);
        found.add(Integer.MAX_VALUE);
        for (int bit = 0; bit < 32; bit++) {
            for (int inside : new int[] {least, greatest}) {
                found.add(inside + (1 << bit));
                found.add(inside - (1 << bit));
                found.add(~inside);
                found.add(-inside);
            }
        }
        found.removeIf(value -> value >= least && value <= greatest);
        return found;
    }
}
