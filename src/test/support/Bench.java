import java.lang.reflect.InvocationTargetException;
import java.lang.reflect.Method;
import java.lang.reflect.Modifier;
import java.util.ArrayList;
import java.util.Arrays;
import java.util.Comparator;
import java.util.List;
import java.util.function.Supplier;
import java.util.function.ToLongFunction;

/**
 * What the tests of boundary cases share. Each method of theirs that takes nothing and is not private is
 * one test, of one sentence of the document, on objects of its own.
 */
final class Bench {
    static final int LEAST = Integer.MIN_VALUE;
    static final int MOST = Integer.MAX_VALUE;

    private static final int LIKENESS_FACTS = 11;
    private static final int CUSTOMS = 4;
    private static final int MOST_STEPS = 5;
    private static final int MEASURES = 10;

    private static String test = "";
    private static int wrong;

    private Bench() {
    }

    /** A call with its arguments in a row. */
    interface Call {
        long of(OldReckoner x, int[] a);
    }

    static void runAll(Class<?> tests) {
        List<Method> all = new ArrayList<>();
        for (Method m : tests.getDeclaredMethods()) {
            int how = m.getModifiers();
            if (Modifier.isStatic(how) && !Modifier.isPrivate(how) && m.getParameterCount() == 0) {
                all.add(m);
            }
        }
        all.sort(Comparator.comparing(Method::getName));
        for (Method m : all) {
            run(m);
        }
        System.out.println(all.size() + " tests, " + wrong + " answers not as due");
        if (wrong != 0 || all.isEmpty()) {
            System.exit(1);
        }
    }

    private static void run(Method m) {
        test = m.getName();
        try {
            m.invoke(null);
        } catch (InvocationTargetException e) {
            fault("threw " + e.getCause());
        } catch (IllegalAccessException e) {
            fault("can't be run: " + e);
        }
    }

    private static void fault(String what) {
        wrong++;
        System.out.println(test + ": " + what);
    }

    static void due(String call, long got, long want) {
        if (got != want) {
            fault(call + " answered " + got + ", due is " + want);
        }
    }

    /** A refused call answers why; then all is as it is with an object that was never asked. */
    static void refused(long want, String call, Supplier<OldReckoner> made, ToLongFunction<OldReckoner> asked) {
        OldReckoner x = made.get();
        due(call, asked.applyAsLong(x), want);
        String now = allOf(x);
        String otherwise = allOf(made.get());
        if (!now.equals(otherwise)) {
            fault(call + " was refused, but changed something:\n  " + otherwise + "\n  " + now);
        }
    }

    static void refused(long want, String call, ToLongFunction<OldReckoner> asked) {
        refused(want, call, Bench::furnished, asked);
    }

    static void eachRefused(long want, String name, Call call, int[]... rows) {
        for (int[] a : rows) {
            refused(want, name + Arrays.toString(a), x -> call.of(x, a));
        }
    }

    /** All that can be seen of an object; it is of no use afterwards, and was asked less than 512 times. */
    private static String allOf(OldReckoner x) {
        StringBuilder s = new StringBuilder();
        for (int what = 0; what <= 4; what++) {
            s.append(' ').append(x.count(what));
        }
        for (int n = 0; n < x.count(0); n++) {
            s.append(" | ");
            for (int what = 0; what < LIKENESS_FACTS; what++) {
                s.append(' ').append(x.told(n, what));
            }
        }
        for (int i = 0; i < MEASURES * 4; i++) {
            s.append(' ').append(x.total(i / 4, i / 2 % 2, i % 2));
        }
        for (int i = 0; i < x.count(3); i++) {
            s.append(' ').append(x.amend(i, 0));
        }
        for (int i = 0; i < CUSTOMS * MOST_STEPS; i++) {
            s.append(' ').append(x.step(i / MOST_STEPS, i % MOST_STEPS, 2));
        }
        for (int place = 1; place < 8; place++) {
            s.append(' ').append(x.lies(place, 0));
        }
        return s.toString();
    }

    /**
     * Six likenesses (0 to 5; 4 is dropped, 5 is a quarrel by itself), the customs 0 (three steps), 1 (none)
     * and 2 (five), 3 being missing, three lines (0 to 2), and places that lie in others.
     */
    static OldReckoner furnished() {
        OldReckoner x = with(new int[] {0, 1, 12, 1}, new int[] {1, 12, 20, 3}, new int[] {2, 2, 82, 1},
                new int[] {3, 23, 5, 2}, new int[] {4, 30, 1, 7}, new int[] {2, 44, 3, 2});
        x.lies(2, 1);
        x.lies(5, 2);
        x.doubt(1, 3, 250);
        x.doubt(2, 7, 100);
        x.doubt(4, 0, 500);
        x.holds(1, 1, 5, 9990);
        x.holds(2, 0, 0, 8000);
        x.holds(3, 5, 70, 80);
        x.drop(4, 1);
        x.custom(0, 3);
        x.step(0, 0, 20);
        x.step(0, 1, 12);
        x.step(0, 2, 4);
        x.custom(1, 0);
        x.custom(2, 5);
        x.step(2, 4, 1000);
        x.line(10, 0, 0, 0);
        x.line(-24, 1, 5, 77);
        x.line(60, 2, 2, 8000);
        return x;
    }

    /** With likenesses told as kind, aAndB, p, q. */
    static OldReckoner with(int[]... likenesses) {
        OldReckoner x = new OldReckoner();
        for (int[] it : likenesses) {
            x.likeness(it[0], it[1], it[2], it[3]);
        }
        return x;
    }

    /** A chain of sure likenesses: 1 of measure i is p[i] / q[i] of measure i + 1. */
    static OldReckoner chain(int[] p, int[] q) {
        OldReckoner x = new OldReckoner();
        for (int i = 0; i < Math.min(p.length, q.length); i++) {
            x.likeness(0, 11 * i + 1, p[i], q[i]);
        }
        return x;
    }

    private static void fraction(String call, long above, long below, long wantAbove, long wantBelow) {
        due(call + ", above the line,", above, wantAbove);
        due(call + ", below the line,", below, wantBelow);
    }

    static void endIs(OldReckoner x, int n, int end, long above, long below) {
        fraction("end(" + n + ", " + end + ")", x.end(n, end, 0), x.end(n, end, 1), above, below);
    }

    static void factorIs(OldReckoner x, int pair, int end, long above, long below) {
        fraction("factor(" + pair + ", 0, " + end + ")",
                x.factor(pair, 0, end, 0), x.factor(pair, 0, end, 1), above, below);
    }

    static void spanIs(OldReckoner x, int pair, int end, long above, long below) {
        fraction("span(" + pair + ", 0, " + end + ")",
                x.span(pair, 0, end, 0), x.span(pair, 0, end, 1), above, below);
    }

    static void totalIs(OldReckoner x, int measure, int end, long above, long below) {
        fraction("total(" + measure + ", " + end + ")",
                x.total(measure, end, 0), x.total(measure, end, 1), above, below);
    }

    /** LARGE, whichever end and part is asked. */
    static void factorIsLarge(OldReckoner x, int pair) {
        for (int i = 0; i < 4; i++) {
            due("factor(" + pair + ", 0, " + i / 2 + ", " + i % 2 + ")",
                    x.factor(pair, 0, i / 2, i % 2), OldReckoner.LARGE);
        }
    }

    static void spanIsLarge(OldReckoner x, int pair) {
        for (int i = 0; i < 4; i++) {
            due("span(" + pair + ", 0, " + i / 2 + ", " + i % 2 + ")",
                    x.span(pair, 0, i / 2, i % 2), OldReckoner.LARGE);
        }
    }

    static void totalAnswers(OldReckoner x, int measure, long want) {
        for (int i = 0; i < 4; i++) {
            due("total(" + measure + ", " + i / 2 + ", " + i % 2 + ")", x.total(measure, i / 2, i % 2), want);
        }
    }

    /** The whole row of a way, and nothing behind it. */
    static void wayIs(OldReckoner x, int pair, int k, long... row) {
        for (int i = 0; i < row.length; i++) {
            due("way(" + pair + ", 0, " + k + ", " + i + ")", x.way(pair, 0, k, i), row[i]);
        }
        due("way(" + pair + ", 0, " + k + ", " + row.length + ")",
                x.way(pair, 0, k, row.length), OldReckoner.NONE);
    }

    /** The whole row of the quarrel at place 0 and day 0, and nothing behind it. */
    static void quarrelIs(OldReckoner x, long... row) {
        for (int i = 0; i < row.length; i++) {
            due("quarrel(0, " + i + ")", x.quarrel(0, i), row[i]);
        }
        due("quarrel(0, " + row.length + ")", x.quarrel(0, row.length), OldReckoner.NONE);
    }
}
