import java.lang.reflect.InvocationTargetException;
import java.lang.reflect.Method;
import java.lang.reflect.Modifier;
import java.util.ArrayList;
import java.util.Arrays;
import java.util.Comparator;
import java.util.List;
import java.util.function.Supplier;

/** What the tests of single sentences share: how they are run, and what a call leaves as it was. */
final class Edges {
    static final int LEAST = Integer.MIN_VALUE;
    static final int MOST = Integer.MAX_VALUE;
    static final int[] BASES = {2, 3, 5};
    /** Worlds with the most and the fewest rests that there are to each q: q, M, N. */
    static final int[][] WORLDS = {{2, 2, 2}, {2, 131, 128}, {3, 3, 3}, {3, 86, 81}, {5, 5, 5}, {5, 131, 125}};

    private Edges() { }

    /** Objects made alike, one after the other: what an object answers after its 512th call is free, so none is asked so often. */
    static final class Fresh {
        private static final int MOST_ASKED = 450;

        private final Supplier<PowersForTimes> maker;
        private PowersForTimes now;
        private int asked = MOST_ASKED;

        Fresh(Supplier<PowersForTimes> maker) {
            this.maker = maker;
        }

        static Fresh at(int q, int m) {
            return new Fresh(() -> Edges.at(q, m));
        }

        /** For one call. */
        PowersForTimes x() {
            if (asked >= MOST_ASKED) {
                now = maker.get();
                asked = 0;
            }
            asked++;
            return now;
        }
    }

    /** A call, to be made on an object in some state. */
    interface Call {
        int on(PowersForTimes x);
    }

    /** Later calls, that show how some part of an object stands; they may use it up. */
    private interface Probe {
        void on(PowersForTimes x, List<Integer> answers);
    }

    private static final Probe[] PROBES = {
        Edges::now,
        Edges::redone,
        Edges::undone,
        Edges::back,
        Edges::read,
        Edges::told
    };

    /** Runs each test of a class that says of a sentence. */
    static void run(Class<?> tests) {
        for (Method m : testsOf(tests)) {
            Due.start(m.getName());
            try {
                m.setAccessible(true);
                m.invoke(null);
            } catch (InvocationTargetException e) {
                Due.holds("no " + e.getCause(), false);
            } catch (IllegalAccessException e) {
                Due.holds("it can be run: " + e, false);
            }
        }
        Due.start(tests.getName());
        Due.finish();
    }

    static List<Method> testsOf(Class<?> tests) {
        List<Method> found = new ArrayList<>();
        for (Method m : tests.getDeclaredMethods()) {
            if (m.isAnnotationPresent(Says.class) && Modifier.isStatic(m.getModifiers())) {
                found.add(m);
            }
        }
        found.sort(Comparator.comparing(Method::getName));
        return found;
    }

    static void due(String call, long got, long want) {
        Due.due(call, got, want);
    }

    static PowersForTimes at(int q, int m) {
        PowersForTimes x = new PowersForTimes();
        Due.holds("world(" + q + ", " + m + ")", x.world(q, m) > 0);
        return x;
    }

    static int power(int q, int k) {
        int power = 1;
        for (int i = 0; i < k; i++) {
            power *= q;
        }
        return power;
    }

    /** Puts a text on the tape and has it read. */
    static int read(PowersForTimes x, String text) {
        Due.put(x, text);
        return x.text();
    }

    /** The coefficients are as due, those above are 0, and so is the degree. */
    static void row(PowersForTimes x, boolean map, int which, int... c) {
        String name = (map ? "map " : "module ") + which;
        due(name + ": degree", x.of(map, which, -1), c.length - 1);
        for (int i = 0; i < 9; i++) {
            due(name + ": of t^" + i, x.of(map, which, i), i < c.length ? c[i] : 0);
        }
    }

    /** The call answers as due, and all is as if it had not been made: later calls tell. */
    static void refused(String name, int want, Call call, Made... in) {
        for (Made state : in) {
            for (int i = 0; i < PROBES.length; i++) {
                PowersForTimes x = state.make();
                due(name + " of " + state, call.on(x), want);
                same(name + " of " + state + ", then probe " + i, i, x, state.make());
            }
        }
    }

    /** Whatever the call answers, all is as if it had not been made. */
    static void quiet(String name, Call call, Made... in) {
        for (Made state : in) {
            for (int i = 0; i < PROBES.length; i++) {
                PowersForTimes x = state.make();
                call.on(x);
                same(name + " of " + state + ", then probe " + i, i, x, state.make());
            }
        }
    }

    /** After either of two runs of calls, all is the same: the same later calls tell, but for the tape and the fault. */
    static void same(Made in, Call one, Call other) {
        for (int i = 0; i < PROBES.length; i++) {
            PowersForTimes x = in.make();
            PowersForTimes y = in.make();
            due("the last call of " + in, one.on(x), other.on(y));
            x.end(0);
            y.end(0);
            Due.put(x, "$");
            Due.put(y, "$");
            due("a fault, if there is room for a text", x.text(), -1);
            due("a fault, if there is room for a text", y.text(), -1);
            same(in + ", then probe " + i, i, x, y);
        }
    }

    private static void same(String name, int probe, PowersForTimes x, PowersForTimes y) {
        List<Integer> got = new ArrayList<>();
        List<Integer> want = new ArrayList<>();
        PROBES[probe].on(x, got);
        PROBES[probe].on(y, want);
        Due.holds(name + ", answered " + got + ", due is " + want, got.equals(want));
    }

    private static void now(PowersForTimes x, List<Integer> answers) {
        for (int i = 0; i < 10; i++) {
            answers.add(x.count(i));
        }
        answers.add(x.fault(0));
        answers.add(x.fault(1));
        int q = x.count(0);
        int n = x.count(3);
        answers.addAll(Arrays.asList(x.poly(0, q - 1, 1), x.poly(2, q + 1, q + 1), x.poly(0, power(q, 13) - 1, 0),
            x.poly(0, power(q, 13), 0), x.work(2, n - 1, n - 1), x.work(3, 1, n - 1), x.work(0, n - 1, n - 1), x.work(0, n, 0),
            x.classes(0, 2), x.sums(2, 1), x.factors(power(q, 6) - 1, 1)));
        rows(x, answers);
        answers.addAll(Arrays.asList(x.act(0, q, n - 1), x.about(0, 2), x.send(0, n - 1)));
    }

    private static void rows(PowersForTimes x, List<Integer> answers) {
        for (int kind = 0; kind < 2; kind++) {
            int many = x.count(4 + kind);
            for (int which = 0; which <= many; which++) {
                int degree = x.of(kind == 1, which, -1);
                answers.add(degree);
                for (int i = 0; i <= degree; i++) {
                    answers.add(x.of(kind == 1, which, i));
                }
            }
        }
    }

    private static void redone(PowersForTimes x, List<Integer> answers) {
        for (int i = x.count(8); i >= 0; i--) {
            answers.add(x.redo());
        }
        rows(x, answers);
    }

    private static void undone(PowersForTimes x, List<Integer> answers) {
        for (int i = x.count(7); i >= 0; i--) {
            answers.add(x.undo());
            answers.add(x.count(4));
            answers.add(x.count(8));
        }
        redone(x, answers);
    }

    private static void back(PowersForTimes x, List<Integer> answers) {
        answers.add(x.back());
        now(x, answers);
        redone(x, answers);
    }

    private static void read(PowersForTimes x, List<Integer> answers) {
        int text = x.text();
        answers.addAll(Arrays.asList(text, x.fault(0), x.fault(1), x.count(9), x.count(6)));
        x.world(3, 86);
        answers.add(x.told(text));
        rows(x, answers);
    }

    private static void told(PowersForTimes x, List<Integer> answers) {
        for (int text = 0; text <= x.count(6); text++) {
            answers.add(x.told(text));
        }
        rows(x, answers);
        for (int text = x.count(6); text >= 0; text--) {
            x.world(3, 86);
            answers.add(x.told(text));
            rows(x, answers);
        }
    }
}
