import java.util.ArrayList;
import java.util.HashMap;
import java.util.List;
import java.util.Map;

/**
 * The whole face, told once more in the plainest way: lists, copies, Naive's
 * tries, and texts read by a row of open signs instead of by calls.
 */
final class Model {
    static final int NONE = -1;
    private static final Map<Long, Naive> WORLDS = new HashMap<>();

    /** A step: a module (map false) or a map, trimmed. */
    record Step(boolean map, int[] c) { }

    private Naive w = world0(2, 2);
    private List<Step> done = new ArrayList<>();
    private List<Step> undone = new ArrayList<>();
    private List<String> texts = new ArrayList<>();
    private Naive keptW;
    private List<Step> keptDone;
    private List<Step> keptUndone;
    private List<String> keptTexts;
    private StringBuilder tape = new StringBuilder();
    private int fault = NONE;
    private int place = NONE;

    Model() {
        image();
    }

    private static Naive world0(int q, int m) {
        return WORLDS.computeIfAbsent((long) q << 32 | m, k -> new Naive(q, m));
    }

    Naive naive() {
        return w;
    }

    private List<int[]> all(boolean map) {
        List<int[]> found = new ArrayList<>();
        for (Step s : done) {
            if (s.map() == map) {
                found.add(s.c());
            }
        }
        return found;
    }

    private int[] one(boolean map, int which) {
        List<int[]> all = all(map);
        return which < 0 || which >= all.size() ? null : all.get(which);
    }

    private boolean rest(int... a) {
        for (int x : a) {
            if (x < 0 || x >= w.n) {
                return false;
            }
        }
        return true;
    }

    private long polys() {
        long all = 1;
        for (int i = 0; i < 13; i++) {
            all *= w.q;
        }
        return all;
    }

    private boolean poly(int a) {
        return a >= 0 && a < polys();
    }

    private int tell(boolean map, int[] c) {
        int[] u = Naive.trim(c);
        int degree = u.length - 1;
        if (map ? degree < 0 || degree > 7 : degree < 1 || degree > 3) {
            return NONE;
        }
        int number = all(map).size();
        if (number == 10) {
            return NONE;
        }
        done.add(new Step(map, u));
        undone.clear();
        return number;
    }

    int world(int q, int m) {
        if (q != 2 && q != 3 && q != 5 || m < q || m > 2 * 128 || !Naive.isPrime(m, q)) {
            return NONE;
        }
        int n = 1;
        for (int i = 1; i < Naive.figures(m, q).length; i++) {
            n *= q;
        }
        if (n > 128) {
            return NONE;
        }
        w = world0(q, m);
        done.clear();
        undone.clear();
        return n;
    }

    int work(int how, int a, int b) {
        if (!rest(a, b) || how == 3 && b == 0) {
            return NONE;
        }
        return switch (how) {
            case 0 -> w.sum(a, b);
            case 1 -> w.less(a, b);
            case 2 -> w.times(a, b);
            case 3 -> w.by(a, b);
            default -> NONE;
        };
    }

    int poly(int how, int a, int b) {
        if (!poly(a) || !poly(b) || (how == 3 || how == 4) && b == 0 || how < 0 || how > 5) {
            return NONE;
        }
        int[] x = Naive.figures(a, w.q);
        int[] y = Naive.figures(b, w.q);
        int[] z = switch (how) {
            case 0 -> Naive.plus(x, y, 1, w.q);
            case 1 -> Naive.plus(x, y, -1, w.q);
            case 2 -> Naive.times(x, y, w.q);
            case 3 -> Naive.divide(x, y, w.q)[1];
            case 4 -> Naive.divide(x, y, w.q)[0];
            default -> Naive.common(x, y, w.q);
        };
        return z.length > 13 ? NONE : Naive.number(z, w.q);
    }

    int module(int g0, int g1, int g2, int g3) {
        return rest(g0, g1, g2, g3) ? tell(false, new int[] {g0, g1, g2, g3}) : NONE;
    }

    int map(int c0, int c1, int c2) {
        return rest(c0, c1, c2) ? tell(true, new int[] {c0, c1, c2}) : NONE;
    }

    int feed(int a, int b, int c, int d, int e) {
        if (tape.length() + 20 > 300) {
            return NONE;
        }
        for (int four : new int[] {a, b, c, d, e}) {
            tape.append((char) (four >> 24 & 255)).append((char) (four >> 16 & 255));
            tape.append((char) (four >> 8 & 255)).append((char) (four & 255));
        }
        return tape.length();
    }

    int end(int n) {
        if (n < 0 || n > tape.length()) {
            return NONE;
        }
        tape.setLength(n);
        return n;
    }

    int text() {
        if (texts.size() == 4) {
            return NONE;
        }
        Reading r = new Reading(tape.toString());
        r.read(null);
        fault = r.fault;
        place = r.fault == 0 ? NONE : r.place;
        if (fault == 0) {
            texts.add(tape.toString());
        }
        tape.setLength(0);
        return fault == 0 ? texts.size() - 1 : NONE;
    }

    int fault(int what) {
        return what == 0 ? fault : what == 1 ? place : NONE;
    }

    int told(int text) {
        if (text < 0 || text >= texts.size()) {
            return -2;
        }
        return new Reading(texts.get(text)).read(this);
    }

    int of(boolean map, int which, int what) {
        int[] c = one(map, which);
        if (c == null || what < NONE) {
            return NONE;
        }
        return what == NONE ? c.length - 1 : what < c.length ? c[what] : 0;
    }

    int act(int module, int poly, int rest) {
        int[] g = one(false, module);
        return g == null || !poly(poly) || !rest(rest) ? NONE : w.act(g, poly, rest);
    }

    int acts(int module, int poly, int i) {
        int[] g = one(false, module);
        if (g == null || !poly(poly) || i < 0 || i > 24) {
            return NONE;
        }
        int[] c = w.actsAs(g, poly);
        return c.length > 25 ? NONE : i < c.length ? c[i] : 0;
    }

    int send(int map, int rest) {
        int[] u = one(true, map);
        return u == null || !rest(rest) ? NONE : w.value(u, rest);
    }

    int noughts(int module, int poly, int i) {
        int[] g = one(false, module);
        if (g == null || !poly(poly) || i < NONE) {
            return NONE;
        }
        List<Integer> found = new ArrayList<>();
        for (int x = 0; x < w.n; x++) {
            if (w.act(g, poly, x) == 0) {
                found.add(x);
            }
        }
        return i == NONE ? found.size() : i < found.size() ? found.get(i) : NONE;
    }

    int about(int module, int what) {
        int[] g = one(false, module);
        if (g == null || what < 0 || what > 2) {
            return NONE;
        }
        return what == 0 ? w.characteristic(g[0]) : what == 1 ? w.height(g) : w.points(g);
    }

    int parts(int module, int i) {
        int[] g = one(false, module);
        if (g == null || i < NONE) {
            return NONE;
        }
        List<Integer> parts = w.parts(g);
        return i == NONE ? parts.size() : i < parts.size() ? parts.get(i) : NONE;
    }

    int great(int module, int what) {
        int[] g = one(false, module);
        if (g == null || g.length != 3 || what < 0 || what > 1) {
            return NONE;
        }
        return what == 0 ? w.trace(g) : w.norm(g);
    }

    int leads(int map, int module, int i) {
        int[] u = one(true, map);
        int[] g = one(false, module);
        if (u == null || g == null || i < 0 || i > 3) {
            return NONE;
        }
        int[] v = w.lead(u, g);
        return v == null ? NONE : i < v.length ? v[i] : 0;
    }

    int dual(int map, int module, int i) {
        int[] u = one(true, map);
        int[] g = one(false, module);
        if (u == null || g == null || i < NONE || i > 24) {
            return NONE;
        }
        int a = w.dual(u, g);
        if (a == NONE || i == NONE) {
            return a;
        }
        int[] v = w.by(w.actsAs(g, a), u);
        return i < v.length ? v[i] : 0;
    }

    int made(int module, int rest) {
        int[] g = one(false, module);
        return g == null || !rest(rest) ? NONE : tell(true, w.make(g, rest));
    }

    int ends(int module, int e) {
        int[] g = one(false, module);
        return g == null || e < 0 || e > 2 ? NONE : w.ends(g, e);
    }

    int alike(int one, int other) {
        int[] g = one(false, one);
        int[] h = one(false, other);
        return g == null || h == null ? NONE : w.alike(g, h);
    }

    int classes(int g0, int rank) {
        return !rest(g0) || rank < 1 || rank > 3 ? NONE : w.classes(g0, rank).size();
    }

    int greatest(int g0) {
        return rest(g0) ? w.greatest(g0) : NONE;
    }

    int sums(int k, int d) {
        return k < 1 || k > 12 || d < 1 || d > 4 || d * k > 12 ? NONE : Naive.sums(k, d, w.q);
    }

    int symbol(int a, int b) {
        if (!poly(a) || !poly(b)) {
            return NONE;
        }
        int[] f = Naive.figures(b, w.q);
        return f.length < 2 || f.length > 7 || !Naive.isMonic(f) ? NONE : Naive.symbol(a, b, w.q);
    }

    int factors(int a, int i) {
        if (!poly(a) || a == 0 || i < NONE) {
            return NONE;
        }
        List<Integer> found = Naive.factors(a, w.q);
        return i == NONE ? found.size() : i < found.size() ? found.get(i) : NONE;
    }

    int undo() {
        if (done.isEmpty()) {
            return NONE;
        }
        undone.add(done.remove(done.size() - 1));
        return done.size();
    }

    int redo() {
        if (undone.isEmpty()) {
            return NONE;
        }
        done.add(undone.remove(undone.size() - 1));
        return done.size();
    }

    int image() {
        keptW = w;
        keptDone = new ArrayList<>(done);
        keptUndone = new ArrayList<>(undone);
        keptTexts = new ArrayList<>(texts);
        return done.size();
    }

    int back() {
        w = keptW;
        done = new ArrayList<>(keptDone);
        undone = new ArrayList<>(keptUndone);
        texts = new ArrayList<>(keptTexts);
        return done.size();
    }

    int count(int what) {
        return switch (what) {
            case 0 -> w.q;
            case 1 -> w.m;
            case 2 -> w.d;
            case 3 -> w.n;
            case 4 -> all(false).size();
            case 5 -> all(true).size();
            case 6 -> texts.size();
            case 7 -> done.size();
            case 8 -> undone.size();
            case 9 -> tape.length();
            default -> -2;
        };
    }

    /** A bracket, or the clause, that is open: a sum, and its product that goes on. */
    private static final class Frame {
        int[] sum;
        boolean less;
        int[] product;
    }

    /** Goes over a text once, token by token, with a row of what is open. */
    private static final class Reading {
        private final String text;
        private final StringBuilder open = new StringBuilder();
        private final List<Frame> frames = new ArrayList<>();
        private Model model;
        private int[] one;
        private boolean cannot;
        int fault = 0;
        int place = NONE;

        Reading(String text) {
            this.text = text;
        }

        private int fail(int what, int at) {
            fault = what;
            place = at;
            return NONE;
        }

        /** Tells the model, if there is one: what told answers. */
        int read(Model toTell) {
            model = toTell;
            // awaited: c a clause or the end, o a one, p a number, a what comes
            // behind a one, b that behind a power
            char awaited = 'c';
            boolean map = false;
            int clauses = 0;
            int i = 0;
            while (true) {
                while (i < text.length() && (text.charAt(i) == ' ' || text.charAt(i) == '\n')) {
                    i++;
                }
                if (i == text.length()) {
                    return awaited == 'c' ? NONE : fail(1, i);
                }
                int at = i;
                String kind = text.substring(i, i + 1);
                for (String sort : new String[] {"[0-9]+", "[a-zA-Z]+"}) {
                    if (kind.matches(sort)) {
                        while (i + 1 < text.length() && text.substring(i + 1, i + 2).matches(sort)) {
                            i++;
                        }
                    }
                }
                i++;
                String token = text.substring(at, i);
                boolean digits = token.matches("[0-9]+");
                java.math.BigInteger value = digits ? new java.math.BigInteger(token) : null;
                if (awaited == 'c') {
                    if (!token.equals("module") && !token.equals("map")) {
                        return fail(1, at);
                    }
                    if (clauses == 20) {
                        return fail(4, at);
                    }
                    clauses++;
                    map = token.equals("map");
                    cannot = false;
                    frames.clear();
                    frames.add(new Frame());
                    awaited = 'o';
                } else if (awaited == 'o') {
                    if (digits) {
                        if (value.bitLength() > 30 || value.intValue() > 9999) {
                            return fail(2, at);
                        }
                        one = number(value.intValue());
                        closeLess();
                        awaited = 'a';
                    } else if (token.equals("t")) {
                        one = new int[] {0, 1};
                        closeLess();
                        awaited = 'a';
                    } else if (token.equals("(") || token.equals("-")) {
                        if (open.length() == 8) {
                            return fail(3, at);
                        }
                        open.append(token);
                        if (token.equals("(")) {
                            frames.add(new Frame());
                        }
                    } else {
                        return fail(1, at);
                    }
                } else if (awaited == 'p') {
                    if (!digits) {
                        return fail(1, at);
                    }
                    if (value.bitLength() > 30 || value.intValue() > 24) {
                        return fail(2, at);
                    }
                    raise(value.intValue());
                    awaited = 'b';
                } else if (token.equals("^") && awaited == 'a') {
                    awaited = 'p';
                } else if (token.equals("*")) {
                    closePower();
                    awaited = 'o';
                } else if (token.equals("+") || token.equals("-")) {
                    closePower();
                    closeProduct();
                    frames.get(frames.size() - 1).less = token.equals("-");
                    awaited = 'o';
                } else if (token.equals(")") && open.length() > 0) {
                    closePower();
                    closeProduct();
                    one = frames.remove(frames.size() - 1).sum;
                    open.setLength(open.length() - 1);
                    closeLess();
                    awaited = 'a';
                } else if (token.equals(";") && open.length() == 0) {
                    closePower();
                    closeProduct();
                    if (model != null && (cannot || model.tell(map, frames.get(0).sum) == NONE)) {
                        return clauses - 1;
                    }
                    awaited = 'c';
                } else {
                    return fail(1, at);
                }
            }
        }

        private int[] number(int value) {
            if (model != null && value >= model.w.n) {
                cannot = true;
                return new int[] {};
            }
            return Naive.trim(new int[] {value});
        }

        private void closeLess() {
            while (open.length() > 0 && open.charAt(open.length() - 1) == '-') {
                open.setLength(open.length() - 1);
                if (model != null) {
                    one = model.w.plus(new int[] {}, one, true);
                }
            }
        }

        private int[] times(int[] a, int[] b) {
            if (model == null || cannot) {
                return new int[] {};
            }
            int[] c = model.w.times(a, b);
            if (c.length > 25) {
                cannot = true;
            }
            return c;
        }

        private void raise(int power) {
            int[] c = {1};
            for (int i = 0; i < power; i++) {
                c = times(c, one);
            }
            one = c;
        }

        private void closePower() {
            Frame f = frames.get(frames.size() - 1);
            f.product = f.product == null ? one : times(f.product, one);
        }

        private void closeProduct() {
            Frame f = frames.get(frames.size() - 1);
            if (f.sum == null || model == null || cannot) {
                f.sum = f.product;
            } else {
                f.sum = model.w.plus(f.sum, f.product, f.less);
            }
            f.product = null;
        }
    }
}
