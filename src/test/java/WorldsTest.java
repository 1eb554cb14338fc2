import java.util.List;
import java.util.Random;

/** Promises 2 to 4 and 12 to 29 over every world there is, held against Naive. */
public final class WorldsTest {
    private static final Random RANDOM = new Random(7);

    public static void main(String[] args) {
        int worlds = 0;
        for (int q = -1; q < 9; q++) {
            boolean base = q == 2 || q == 3 || q == 5;
            for (int m = -3; m < 700; m++) {
                PowersForTimes x = new PowersForTimes();
                int n = 1;
                for (int p = m; base && p >= q; p /= q) {
                    n *= q;
                }
                boolean is = base && m >= q && n <= 128 && Naive.isPrime(m, q);
                Due.due("world(" + q + ", " + m + ")", x.world(q, m), is ? n : -1);
                Due.due("q", x.count(0), is ? q : 2);
                Due.due("M", x.count(1), is ? m : 2);
                Due.due("N", x.count(3), is ? n : 2);
                if (is) {
                    worlds++;
                    one(new Naive(q, m));
                }
            }
        }
        Due.due("worlds", worlds, 128);
        numbers();
        Due.finish();
    }

    private static int less(int n) {
        return RANDOM.nextInt(n);
    }

    private static void one(Naive w) {
        Edges.Fresh fresh = Edges.Fresh.at(w.q, w.m);
        Due.due("d", fresh.x().count(2), w.d);
        for (int a = 0; a < w.n; a++) {
            for (int b = 0; b < w.n; b++) {
                Due.due("work 2", fresh.x().work(2, a, b), w.times(a, b));
                if (b > 0) {
                    Due.due("work 3", w.times(fresh.x().work(3, a, b), b), a);
                }
            }
        }
        String name = "world " + w.q + " " + w.m + ": ";
        for (int g0 = 0; g0 < w.n; g0 += 1 + less(w.n)) {
            counts(name, fresh, w, g0);
        }
        for (int i = 0; i < 12; i++) {
            int rank = 1 + i % 3;
            int[] g = new int[4];
            for (int k = 0; k <= rank; k++) {
                g[k] = less(4) == 0 ? 0 : less(w.n);
            }
            g[rank] = less(3) == 0 ? 1 : 1 + less(w.n - 1);
            if (i % 4 == 0) {
                g[0] = less(w.q);
            }
            PowersForTimes x = Edges.at(w.q, w.m);
            Due.due(name + "module", x.module(g[0], g[1], g[2], g[3]), 0);
            module(name + g[0] + " " + g[1] + " " + g[2] + " " + g[3] + ": ", x, w, Naive.trim(g));
        }
    }

    private static void counts(String name, Edges.Fresh fresh, Naive w, int g0) {
        for (int rank = 1; rank <= 3; rank++) {
            if (rank < 3 && w.n < 28 || rank < 2 || rank == 3 && w.n < 10) {
                Due.due(name + "classes(" + g0 + ", " + rank + ")", fresh.x().classes(g0, rank), w.classes(g0, rank).size());
            }
        }
        if (w.n < 33 || g0 < 2) {
            Due.due(name + "greatest(" + g0 + ")", fresh.x().greatest(g0), w.greatest(g0));
        }
    }

    private static void module(String name, PowersForTimes x, Naive w, int[] g) {
        Due.due(name + "about 0", x.about(0, 0), w.characteristic(g[0]));
        Due.due(name + "about 1", x.about(0, 1), w.height(g));
        Due.due(name + "about 2", x.about(0, 2), w.points(g));
        List<Integer> parts = w.parts(g);
        Due.due(name + "parts", x.parts(0, -1), parts.size());
        for (int i = 0; i <= parts.size(); i++) {
            Due.due(name + "parts " + i, x.parts(0, i), i < parts.size() ? parts.get(i) : -1);
        }
        Due.due(name + "great 0", x.great(0, 0), g.length == 3 ? w.trace(g) : -1);
        Due.due(name + "great 1", x.great(0, 1), g.length == 3 ? w.norm(g) : -1);
        for (int i = 0; i < 6; i++) {
            int a = less(3) == 0 ? less(w.q) : less(w.q * w.q * w.q * w.q);
            int[] c = w.actsAs(g, a);
            for (int k = 0; k <= 24; k++) {
                Due.due(name + "acts " + a + " " + k, x.acts(0, a, k), k < c.length ? c[k] : 0);
            }
            int rest = less(w.n);
            Due.due(name + "act " + a + " " + rest, x.act(0, a, rest), w.act(g, a, rest));
        }
        Due.due(name + "ends 0", x.ends(0, 0), w.ends(g, 0));
        if (w.n < 17) {
            Due.due(name + "ends 1", x.ends(0, 1), w.ends(g, 1));
        }
        if (w.n < 10) {
            Due.due(name + "ends 2", x.ends(0, 2), w.ends(g, 2));
        }
        for (int i = 0; i < 5; i++) {
            made(name, x, w, g, i, less(w.n));
        }
        likes(name, x, w, g);
    }

    private static void made(String name, PowersForTimes x, Naive w, int[] g, int number, int rest) {
        int[] u = w.make(g, rest);
        String call = name + "made " + rest + " ";
        Due.due(call, x.made(0, rest), number);
        Due.due(call + "degree", x.of(true, number, -1), u.length - 1);
        for (int i = 0; i < 8; i++) {
            Due.due(call + i, x.of(true, number, i), i < u.length ? u[i] : 0);
        }
        int[] v = w.lead(u, g);
        for (int i = 0; i < 4; i++) {
            Due.due(call + "leads " + i, x.leads(number, 0, i), i < v.length ? v[i] : 0);
        }
        int a = w.dual(u, g);
        Due.due(call + "dual", x.dual(number, 0, -1), a);
        int[] c = a < 0 ? null : w.by(w.actsAs(g, a), u);
        for (int i = 0; i <= 24; i++) {
            Due.due(call + "dual " + i, x.dual(number, 0, i), a < 0 ? -1 : i < c.length ? c[i] : 0);
        }
    }

    /** Modules that are made alike, and one that is not. */
    private static void likes(String name, PowersForTimes x, Naive w, int[] g) {
        int c = 1 + less(w.n - 1);
        int[] h = new int[4];
        for (int i = 0; i < g.length; i++) {
            h[i] = w.by(w.times(c, g[i]), w.turn(c, i));
        }
        Due.due(name + "other", x.module(h[0], h[1], h[2], h[3]), 1);
        Due.due(name + "alike 0 1", x.alike(0, 1), w.alike(g, Naive.trim(h)));
        Due.due(name + "alike 1 0", x.alike(1, 0), w.alike(Naive.trim(h), g));
        h[1] = less(w.n);
        if (x.module(h[0], h[1], h[2], h[3]) == 2) {
            Due.due(name + "alike 0 2", x.alike(0, 2), w.alike(g, Naive.trim(h)));
        }
    }

    /** What hangs on q alone. */
    private static void numbers() {
        for (int q : new int[] {2, 3, 5}) {
            Edges.Fresh fresh = Edges.Fresh.at(q, q);
            int all = (int) Math.pow(q, 13);
            for (int k = -1; k < 15; k++) {
                for (int d = -1; d < 7; d++) {
                    boolean is = k >= 1 && k <= 12 && d >= 1 && d <= 4 && k * d <= 12;
                    Due.due("sums " + k + " " + d, fresh.x().sums(k, d), is ? Naive.sums(k, d, q) : -1);
                }
            }
            for (int i = 0; i < 3000; i++) {
                int a = q == 2 ? 1 + i * 2 + less(2) : 1 + less(i % 2 == 0 ? all - 1 : 20000);
                factors(fresh, a, q);
            }
            for (int i = 0; i < 300; i++) {
                factors(fresh, product(q), q);
            }
            for (int b = 0; b < 150; b++) {
                for (int i = 0; i < 12; i++) {
                    int a = less(i < 6 ? 30 : all);
                    int[] f = Naive.figures(b, q);
                    boolean is = f.length > 1 && f.length < 8 && Naive.isMonic(f);
                    Due.due(q + ": symbol " + a + " " + b, fresh.x().symbol(a, b), is ? Naive.symbol(a, b, q) : -1);
                }
            }
        }
    }

    private static int product(int q) {
        int[] all = {1 + less(q - 1)};
        int degree = 1 + less(4);
        int[] high = new int[degree + 1];
        high[degree] = 1;
        int start = Naive.number(high, q);
        int[] first = Naive.figures(start + less(start), q);
        while (all.length + degree <= 13) {
            int[] next = less(2) == 0 ? first : Naive.figures(start + less(start), q);
            all = Naive.times(all, next, q);
        }
        return Naive.number(all, q);
    }

    private static void factors(Edges.Fresh fresh, int a, int q) {
        List<Integer> f = Naive.factors(a, q);
        Due.due(q + ": factors " + a, fresh.x().factors(a, -1), f.size());
        for (int i = 0; i <= f.size(); i++) {
            Due.due(q + ": factors " + a + " " + i, fresh.x().factors(a, i), i < f.size() ? f.get(i) : -1);
        }
    }
}
