import java.util.List;

/** Each sentence of part III, and of promises 12 to 26: what modules and maps do, at the edges that it names. */
public final class ModulesEdgesTest {
    private static final int LEAST = Edges.LEAST;
    private static final int MOST = Edges.MOST;
    private static final int NONE = -1;
    /** Worlds, and modules in them: q, M, g0 .. g3. All ranks, heights and degrees of the characteristic, 1 to 3 parts. */
    private static final int[][] MODULES = {
        {2, 2, 1, 1, 0, 0}, {2, 2, 0, 1, 1, 1}, {2, 7, 2, 1, 0, 0}, {2, 7, 1, 0, 1, 0}, {2, 7, 2, 2, 1, 1}, {2, 11, 1, 0, 0, 1},
        {2, 11, 0, 5, 3, 0}, {2, 11, 4, 4, 3, 2}, {2, 19, 6, 8, 3, 0}, {2, 19, 7, 13, 3, 0}, {2, 19, 6, 11, 12, 15}, {2, 19, 10, 9, 8, 0},
        {2, 67, 23, 51, 1, 0}, {2, 67, 59, 0, 0, 57}, {2, 131, 2, 1, 0, 0}, {2, 131, 0, 4, 119, 34}, {2, 131, 1, 0, 127, 0}, {3, 3, 2, 1, 2, 0},
        {3, 10, 3, 0, 1, 0}, {3, 10, 1, 0, 1, 0}, {3, 10, 4, 2, 6, 0}, {3, 34, 2, 0, 0, 8}, {3, 34, 15, 3, 10, 0}, {3, 86, 72, 55, 23, 0},
        {3, 86, 77, 43, 75, 0}, {3, 86, 0, 76, 0, 0}, {5, 5, 0, 1, 2, 0}, {5, 5, 4, 4, 0, 0}, {5, 27, 2, 0, 4, 0}, {5, 27, 13, 10, 5, 0},
        {5, 27, 9, 0, 1, 10}, {5, 131, 3, 0, 0, 1}, {5, 131, 98, 62, 113, 0}, {5, 131, 26, 25, 74, 0}
    };

    public static void main(String[] args) {
        Edges.run(ModulesEdgesTest.class);
    }

    private static void due(String call, int got, int want) {
        Due.due(call, got, want);
    }

    /** A world with one module. */
    private static PowersForTimes with(int q, int m, int... g) {
        PowersForTimes x = Edges.at(q, m);
        due("module", x.module(g[0], g.length > 1 ? g[1] : 0, g.length > 2 ? g[2] : 0, g.length > 3 ? g[3] : 0), 0);
        return x;
    }

    private interface Each {
        void see(String name, PowersForTimes x, Naive w, int[] g);
    }

    /** Each of MODULES as module 0 of an object of its own, and the same for Naive. */
    private static void each(Each test) {
        for (int[] m : MODULES) {
            PowersForTimes x = with(m[0], m[1], m[2], m[3], m[4], m[5]);
            int[] g = Naive.trim(new int[] {m[2], m[3], m[4], m[5]});
            test.see(java.util.Arrays.toString(m) + ": ", x, new Naive(m[0], m[1]), g);
        }
    }

    /** Numbers that are no modules, or no maps, of the object that RICH makes: it has 3 and 2, and one of each undone. */
    private static final int[] NO_MODULES = {3, 4, 10, -1, -2, LEAST, MOST};
    private static final int[] NO_MAPS = {2, 3, 10, -1, -2, LEAST, MOST};

    private interface CallBy {
        int on(PowersForTimes x, int which);
    }

    private static void noModules(String name, CallBy call) {
        PowersForTimes x = Made.RICH.make();
        due("modules", x.count(4), 3);
        Due.holds(name + " by the last module", call.on(x, 2) != NONE);
        for (int bad : NO_MODULES) {
            Edges.refused(name + " by module " + bad, NONE, y -> call.on(y, bad), Made.RICH);
        }
        for (int bad : new int[] {0, 1, 9, 10}) {
            Edges.refused(name + " by module " + bad, NONE, y -> call.on(y, bad), Made.NEW, Made.FULL_OF_BYTES);
        }
        Edges.refused(name + " by module 10", NONE, y -> call.on(y, 10), Made.FULL_OF_MODULES, Made.FULL_OF_BOTH);
    }

    private static void noMaps(String name, CallBy call) {
        PowersForTimes x = Made.RICH.make();
        due("maps", x.count(5), 2);
        Due.holds(name + " of the last map", call.on(x, 1) != NONE);
        for (int bad : NO_MAPS) {
            Edges.refused(name + " of map " + bad, NONE, y -> call.on(y, bad), Made.RICH);
        }
        Edges.refused(name + " of map 0", NONE, y -> call.on(y, 0), Made.NEW, Made.FULL_OF_BYTES, Made.FULL_OF_MODULES);
        Edges.refused(name + " of map 10", NONE, y -> call.on(y, 10), Made.FULL_OF_MAPS, Made.FULL_OF_BOTH);
    }

    // ---- promise 12

    @Says(at = "Promise 12", value = "Of a MODULE (map false) or MAP: what NONE: its DEGREE; else its coefficient of t^what (0 above).")
    static void p12Of() {
        PowersForTimes x = Edges.at(3, 10);
        x.module(8, 1, 0, 0);
        x.module(0, 0, 7, 0);
        x.module(4, 5, 6, 2);
        due("text", Edges.read(x, "map 5;map t;map 3*t^6+t^2;map 8*t^7+2*t+1;"), 0);
        due("told", x.told(0), NONE);
        Edges.row(x, false, 0, 8, 1);
        Edges.row(x, false, 1, 0, 0, 7);
        Edges.row(x, false, 2, 4, 5, 6, 2);
        Edges.row(x, true, 0, 5);
        Edges.row(x, true, 1, 0, 1);
        Edges.row(x, true, 2, 0, 0, 1, 0, 0, 0, 3);
        Edges.row(x, true, 3, 1, 2, 0, 0, 0, 0, 0, 8);
        for (int above : new int[] {8, 9, 24, 25, 26, 300, MOST}) {
            due("of t^" + above, x.of(false, 2, above), 0);
            due("of t^" + above, x.of(true, 3, above), 0);
        }
        due("the module's first above", x.of(false, 2, 4), 0);
        due("the map's last", x.of(true, 3, 7), 8);
    }

    @Says(at = "Promise 12", value = "NONE for others.")
    static void p12OfOthers() {
        noModules("of", (x, which) -> x.of(false, which, 0));
        noModules("degree", (x, which) -> x.of(false, which, NONE));
        noMaps("of", (x, which) -> x.of(true, which, 0));
        noMaps("degree", (x, which) -> x.of(true, which, NONE));
        due("the last map", Made.RICH.make().of(true, 1, NONE), 2);
        due("the 10th module", Made.FULL_OF_BOTH.make().of(false, 9, NONE), 1);
        due("the 10th map", Made.FULL_OF_BOTH.make().of(true, 9, NONE), 1);
        for (int bad : new int[] {-2, -3, LEAST}) {
            Edges.refused("what " + bad, NONE, x -> x.of(false, 0, bad), Made.RICH);
            Edges.refused("what " + bad, NONE, x -> x.of(true, 0, bad), Made.RICH);
        }
    }

    // ---- promises 13 to 16

    @Says(at = "Promise 13", value = "What a POLYNOMIAL that ACTS by a MODULE makes of a REST.")
    static void p13Act() {
        each((name, x, w, g) -> {
            int last = Edges.power(w.q, 13) - 1;
            for (int poly : new int[] {0, 1, w.q - 1, w.q, w.q + 1, 2 * w.q * w.q, Edges.power(w.q, 12), last - 1, last}) {
                for (int rest : new int[] {0, 1, w.n / 2, w.n - 1}) {
                    due(name + "act " + poly + " " + rest, x.act(0, poly, rest), w.act(g, poly, rest));
                }
            }
        });
    }

    @Says(at = "Promise 13", value = "NONE for others.")
    static void p13ActOfOthers() {
        noModules("act", (x, module) -> x.act(module, 3, 1));
        PowersForTimes x = Made.RICH.make();
        Due.holds("the last of each", x.act(2, 1594322, 8) >= 0);
        for (int bad : new int[] {1594323, -1, LEAST, MOST}) {
            Edges.refused("poly " + bad, NONE, y -> y.act(0, bad, 1), Made.RICH);
        }
        for (int bad : new int[] {9, 10, -1, LEAST, MOST}) {
            Edges.refused("rest " + bad, NONE, y -> y.act(0, 3, bad), Made.RICH);
        }
    }

    @Says(at = "Promise 14", value = "The coefficient of t^i of what a POLYNOMIAL ACTS as (i 0 .. 24).")
    static void p14Acts() {
        each((name, x, w, g) -> {
            for (int poly : new int[] {0, 1, w.q - 1, w.q, w.q + 1, 2 * w.q * w.q - 1, Edges.power(w.q, 8), Edges.power(w.q, 9) - 1}) {
                int[] c = w.actsAs(g, poly);
                for (int i = 0; i <= 24; i++) {
                    due(name + "acts " + poly + " " + i, x.acts(0, poly, i), i < c.length ? c[i] : 0);
                }
            }
        });
    }

    @Says(at = "Promise 14", value = "NONE for others, and if it would be of DEGREE above 24.")
    static void p14ActsOfOthers() {
        noModules("acts", (x, module) -> x.acts(module, 1, 0));
        each((name, x, w, g) -> {
            int rank = g.length - 1;
            for (int degree = 0; degree <= 12; degree++) {
                boolean is = degree * rank <= 24;
                for (int poly : new int[] {Edges.power(w.q, degree), Edges.power(w.q, degree + 1) - 1}) {
                    for (int i : new int[] {0, 12, 23, 24}) {
                        Due.holds(name + "acts " + poly + " " + i, x.acts(0, poly, i) >= 0 == is);
                    }
                    due(name + "i 25", x.acts(0, poly, 25), NONE);
                }
            }
        });
        PowersForTimes x = Made.RICH.make();
        due("of degree 24", x.acts(1, 531441, 24), 1);
        due("module", x.module(1, 1, 1, 1), 3);
        due("of degree 24", x.acts(3, 6561, 24), 1);
        due("of degree 27", x.acts(3, 19683, 24), NONE);
        due("of degree 27", x.acts(3, 19683, 0), NONE);
        for (int bad : new int[] {-1, -2, 25, 26, 27, LEAST, MOST}) {
            Edges.refused("i " + bad, NONE, y -> y.acts(0, 4, bad), Made.RICH);
        }
        for (int bad : new int[] {1594323, -1, LEAST, MOST}) {
            Edges.refused("poly " + bad, NONE, y -> y.acts(0, bad, 0), Made.RICH);
        }
        // what is redone there is of rank 3
        Edges.same(Made.RICH, y -> y.redo() * 0 + y.acts(3, 19683, 0), y -> y.redo() * 0 - 1);
    }

    @Says(at = "Promise 15", value = "What a MAP makes of a REST.")
    static void p15Send() {
        for (int[] world : Edges.WORLDS) {
            PowersForTimes x = Edges.at(world[0], world[1]);
            Naive w = new Naive(world[0], world[1]);
            int last = w.n - 1;
            int[][] maps = {{1}, {last}, {0, 1}, {0, last}, {0, 0, 1}, {last, 1, last}, {1, 1, 1}, {last - 1, 0, last}};
            for (int i = 0; i < maps.length; i++) {
                int[] c = java.util.Arrays.copyOf(maps[i], 3);
                due("map", x.map(c[0], c[1], c[2]), i);
            }
            due("text", Edges.read(x, "map t^7;map 1+t^7;"), 0);
            due("told", x.told(0), NONE);
            for (int rest = 0; rest < w.n; rest += 1 + w.n / 20) {
                for (int i = 0; i < maps.length; i++) {
                    due("send(" + i + ", " + rest + ")", x.send(i, rest), w.value(maps[i], rest));
                }
                due("t^7 of " + rest, x.send(8, rest), w.turn(rest, 7));
                due("1 + t^7 of " + rest, x.send(9, rest), w.sum(rest, w.turn(rest, 7)));
            }
            due("of the last", x.send(1, last), w.times(last, last));
            due("of 0", x.send(5, 0), 0);
        }
    }

    @Says(at = "Promise 15", value = "NONE for others.")
    static void p15SendOfOthers() {
        noMaps("send", (x, map) -> x.send(map, 1));
        Due.holds("the last of each", Made.RICH.make().send(1, 8) >= 0);
        for (int bad : new int[] {9, 10, -1, LEAST, MOST}) {
            Edges.refused("rest " + bad, NONE, y -> y.send(0, bad), Made.RICH);
        }
    }

    @Says(at = "III", value = "By a MODULE: NOUGHTS of a POLYNOMIAL: RESTS that it sends to 0 as it ACTS.")
    static void iiiNoughts() {
        each((name, x, w, g) -> {
            int points = w.points(g);
            for (int poly : new int[] {0, 1, w.q, w.q + 1, points, Edges.power(w.q, 12), Edges.power(w.q, 13) - 1}) {
                int many = 0;
                for (int rest = 0; rest < w.n; rest++) {
                    if (w.act(g, poly, rest) == 0) {
                        due(name + "nought " + many + " of " + poly, x.noughts(0, poly, many), rest);
                        many++;
                    }
                    if (many > 3 && poly != points) {
                        break;
                    }
                }
                if (poly == 0 || poly == points) {
                    due(name + "noughts of " + poly, x.noughts(0, poly, NONE), w.n);
                }
                if (poly == 1) {
                    due(name + "noughts of 1", x.noughts(0, 1, NONE), 1);
                }
            }
        });
    }

    @Says(at = "Promise 16", value = "NOUGHTS: how many (i NONE), the i-th (from 0).")
    static void p16Noughts() {
        // T is 2 + t: 0 and 2 go to 0
        PowersForTimes x = with(2, 7, 2, 1);
        due("how many", x.noughts(0, 2, NONE), 2);
        due("0th", x.noughts(0, 2, 0), 0);
        due("1st", x.noughts(0, 2, 1), 2);
        due("2nd", x.noughts(0, 2, 2), NONE);
        x = with(2, 131, 2, 1);
        due("all", x.noughts(0, 0, NONE), 128);
        for (int i = 0; i < 128; i++) {
            due("in their order", x.noughts(0, 0, i), i);
        }
        due("128th", x.noughts(0, 0, 128), NONE);
    }

    @Says(at = "Promise 16", value = "NONE if there is none such, and for others.")
    static void p16NoughtsOfOthers() {
        noModules("noughts", (x, module) -> x.noughts(module, 3, NONE));
        noModules("a nought", (x, module) -> x.noughts(module, 3, 0));
        PowersForTimes x = Made.RICH.make();
        due("of 0: 9", x.noughts(0, 0, NONE), 9);
        due("of 0: the last", x.noughts(0, 0, 8), 8);
        due("of 1: 1", x.noughts(0, 1, NONE), 1);
        for (int bad : new int[] {9, 10, MOST, -2, LEAST}) {
            Edges.refused("i " + bad, NONE, y -> y.noughts(0, 0, bad), Made.RICH);
        }
        Edges.refused("i 1 of 1", NONE, y -> y.noughts(0, 1, 1), Made.RICH);
        for (int bad : new int[] {1594323, -1, LEAST, MOST}) {
            Edges.refused("poly " + bad, NONE, y -> y.noughts(0, bad, NONE), Made.RICH);
            Edges.refused("poly " + bad, NONE, y -> y.noughts(0, bad, 0), Made.RICH);
        }
    }

    // ---- promises 17 to 19

    @Says(at = "III", value = "CHARACTERISTIC: the MONIC POLYNOMIAL of least DEGREE that has g0 for a root (in RESTS).")
    static void iiiCharacteristic() {
        for (int[] world : new int[][] {{2, 2}, {2, 7}, {2, 19}, {2, 67}, {2, 131}, {3, 3}, {3, 10}, {3, 86}, {5, 5}, {5, 27}, {5, 131}}) {
            Naive w = new Naive(world[0], world[1]);
            for (int g0 = 0; g0 < w.n; g0 += 1 + g0 / 12) {
                PowersForTimes x = with(world[0], world[1], g0, 1);
                String name = world[0] + ", " + world[1] + ": characteristic of " + g0;
                int c = x.about(0, 0);
                due(name, c, w.characteristic(g0));
                if (g0 < w.q) {
                    due(name + ": T - g0", c, w.q + (w.q - g0) % w.q);
                }
                // it is a prime, since the rests have no divisors of 0, and its degree divides d
                due(name + ": primes", x.factors(c, NONE), 1);
                due(name + ": its degree divides d", w.d % (Naive.figures(c, w.q).length - 1), 0);
            }
            if (w.d > 1) {
                due("of x: M", with(world[0], world[1], w.q, 1).about(0, 0), world[1]);
            }
        }
        due("of degree 1 in 4", with(2, 19, 1, 1).about(0, 0), 3);
        due("of degree 2 in 4", with(2, 19, 6, 1).about(0, 0), 7);
        due("of degree 4 in 4", with(2, 19, 8, 1).about(0, 0), 31);
    }

    @Says(at = "III", value = "HEIGHT: of the TURNED that the CHARACTERISTIC ACTS as, the least i with ci not 0, by the DEGREE of the CHARACTERISTIC.")
    static void iiiHeight() {
        each((name, x, w, g) -> {
            int c = x.about(0, 0);
            int least = 0;
            while (x.acts(0, c, least) == 0) {
                least++;
            }
            int degree = Naive.figures(c, w.q).length - 1;
            due(name + "height", x.about(0, 1) * degree, least);
            due(name + "height", x.about(0, 1), w.height(g));
        });
        // every height of every rank, by characteristics of degree 1, 2, 3 and 4
        int[][] heights = {{1, 2, 19, 0, 12}, {1, 2, 19, 6, 7}, {1, 2, 19, 15, 9}, {1, 2, 19, 1, 4, 12}, {1, 2, 19, 6, 0, 10},
            {1, 2, 19, 4, 6, 3}, {2, 2, 19, 1, 0, 15}, {2, 2, 19, 6, 5, 10}, {2, 2, 19, 10, 9, 8}, {1, 2, 19, 7, 8, 7, 6}, {2, 2, 19, 0, 0, 7, 5},
            {2, 2, 19, 6, 11, 12, 15}, {2, 2, 19, 15, 1, 0, 2}, {3, 2, 19, 1, 0, 0, 1}, {3, 2, 19, 6, 0, 0, 9}, {3, 2, 19, 4, 0, 0, 2},
            {2, 2, 67, 14, 0, 23}, {3, 5, 27, 13, 0, 0, 2}};
        for (int[] h : heights) {
            int[] g = java.util.Arrays.copyOfRange(h, 3, h.length);
            due(java.util.Arrays.toString(h), with(h[1], h[2], g).about(0, 1), h[0]);
        }
    }

    @Says(at = "III", value = "POINTS: the characteristic polynomial of T as it ACTS on RESTS (a space of d figures): MONIC, of DEGREE d.")
    static void iiiPoints() {
        each((name, x, w, g) -> {
            int points = x.about(0, 2);
            due(name + "points", points, w.points(g));
            due(name + "monic, of degree d", points / w.n, 1);
            due(name + "it sends all to 0", x.noughts(0, points, NONE), w.n);
        });
        // t alone turns d times: T^d - 1
        due("d 1", with(2, 2, 0, 1).about(0, 2), 3);
        due("d 7", with(2, 131, 0, 1).about(0, 2), 129);
        due("d 4", with(3, 86, 0, 1).about(0, 2), 83);
        due("d 3", with(5, 131, 0, 1).about(0, 2), 129);
    }

    @Says(at = "III", value = "PARTS: RESTS under the MODULE are alike to POLYNOMIALS mod D1, mod D2, .., each MONIC and dividing the one ahead: those of DEGREE 1 or more.")
    static void iiiParts() {
        each((name, x, w, g) -> {
            List<Integer> parts = w.parts(g);
            due(name + "parts", x.parts(0, NONE), parts.size());
            int all = 1;
            for (int i = 0; i < parts.size(); i++) {
                int part = x.parts(0, i);
                due(name + "part " + i, part, parts.get(i));
                due(name + "monic", Naive.figures(part, w.q)[Naive.figures(part, w.q).length - 1], 1);
                Due.holds(name + "of degree 1 or more", part >= w.q);
                if (i > 0) {
                    due(name + "divides the one ahead", x.poly(3, x.parts(0, i - 1), part), 0);
                }
                all = x.poly(2, all, part);
            }
            due(name + "together they are the points", all, x.about(0, 2));
            due(name + "none of degree 0", x.parts(0, parts.size()), NONE);
        });
        int[][] three = {{2, 11, 1, 0, 0, 1}, {5, 131, 3, 0, 0, 1}};
        for (int[] m : three) {
            PowersForTimes x = with(m[0], m[1], m[2], m[3], m[4], m[5]);
            due("three alike", x.parts(0, NONE), 3);
            for (int i = 0; i < 3; i++) {
                due("T is a figure", x.parts(0, i), m[0] == 2 ? 2 : 6);
            }
        }
    }

    @Says(at = "Promise 17", value = "0 CHARACTERISTIC, 1 HEIGHT, 2 POINTS.")
    static void p17About() {
        PowersForTimes x = with(3, 10, 3, 0, 1);
        due("characteristic", x.about(0, 0), 10);
        due("height", x.about(0, 1), 1);
        due("points", x.about(0, 2), 14);
        x = with(2, 2, 1, 1);
        due("characteristic", x.about(0, 0), 3);
        due("height", x.about(0, 1), 1);
        due("points", x.about(0, 2), 2);
    }

    @Says(at = "Promise 17", value = "NONE for others.")
    static void p17AboutOfOthers() {
        for (int what = 0; what < 3; what++) {
            int w = what;
            noModules("about " + what, (x, module) -> x.about(module, w));
        }
        for (int bad : new int[] {-1, -2, 3, 4, LEAST, MOST}) {
            Edges.refused("what " + bad, NONE, x -> x.about(0, bad), Made.RICH);
        }
    }

    @Says(at = "Promise 18", value = "PARTS: how many (i NONE), Di + 1 (i from 0).")
    static void p18Parts() {
        PowersForTimes x = with(2, 11, 2, 1, 7);
        due("how many", x.parts(0, NONE), 2);
        due("D1", x.parts(0, 0), 4);
        due("D2", x.parts(0, 1), 2);
        due("D3", x.parts(0, 2), NONE);
        x = with(2, 131, 2, 1);
        due("one", x.parts(0, NONE), 1);
        due("D1, of degree 7", x.parts(0, 0), x.about(0, 2));
        due("D2", x.parts(0, 1), NONE);
    }

    @Says(at = "Promise 18", value = "NONE if there is none such, and for others.")
    static void p18PartsOfOthers() {
        noModules("parts", (x, module) -> x.parts(module, NONE));
        noModules("a part", (x, module) -> x.parts(module, 0));
        PowersForTimes x = Made.RICH.make();
        due("two", x.parts(1, NONE), 2);
        due("D2", x.parts(1, 1), 4);
        for (int bad : new int[] {2, 3, 6, 7, 8, MOST, -2, -3, LEAST}) {
            Edges.refused("i " + bad, NONE, y -> y.parts(1, bad), Made.RICH);
        }
        due("three", with(2, 11, 1, 0, 0, 1).parts(0, 2), 2);
        due("no fourth", with(2, 11, 1, 0, 0, 1).parts(0, 3), NONE);
    }

    @Says(at = "III", value = "Of a MODULE of RANK 2: NORM b: the CHARACTERISTIC to the power of d by its DEGREE, times e: (-1)^d by the product of g2, g2^q, .., g2^(q^(d-1)) (which is a figure).")
    static void iiiNorm() {
        each((name, x, w, g) -> {
            if (g.length == 3) {
                int b = x.great(0, 1);
                due(name + "norm", b, w.norm(g));
                due(name + "of degree d", Naive.figures(b, w.q).length - 1, w.d);
            }
        });
        // all g2 of worlds with odd and even d: e is -1 by the product, and 1 by it
        for (int[] world : new int[][] {{3, 3}, {3, 10}, {3, 34}, {5, 5}, {5, 27}}) {
            Naive w = new Naive(world[0], world[1]);
            for (int g2 = 1; g2 < w.n; g2++) {
                PowersForTimes x = with(world[0], world[1], 1, 2, g2);
                due(world[0] + ", " + world[1] + ": norm by " + g2, x.great(0, 1), w.norm(new int[] {1, 2, g2}));
            }
        }
        // T to the power of 1 (d 1), 3 (d 3): (-1)^d is -1; of 2, and (T^2 + 1)^1: it is 1
        due("d 1", with(5, 5, 0, 1, 2).great(0, 1), 10);
        due("d 3", with(3, 34, 0, 0, 1).great(0, 1), 54);
        due("d 2", with(3, 10, 0, 0, 1).great(0, 1), 9);
        due("d 2, of degree 2", with(3, 10, 3, 0, 1).great(0, 1), 10);
        due("d 4, of degree 2", with(2, 19, 6, 0, 1).great(0, 1), 21);
        due("d 7, of degree 7", with(2, 131, 2, 0, 1).great(0, 1), 131);
    }

    @Says(at = "III", value = "TRACE a: the POLYNOMIAL (of DEGREE d / 2 at most, or 0) by which, F being t^d: F F - a F + b is 0 (a and b as they ACT).")
    static void iiiTrace() {
        each((name, x, w, g) -> {
            if (g.length == 3) {
                int a = x.great(0, 0);
                due(name + "trace", a, w.trace(g));
                // a and b as they act, on t^d behind
                int b = x.great(0, 1);
                for (int i = 0; i <= 2 * w.d; i++) {
                    int square = i == 2 * w.d ? 1 : 0;
                    int times = i < w.d ? 0 : x.acts(0, a, i - w.d);
                    due(name + "F F - a F + b, of t^" + i, x.work(0, x.work(1, square, times), x.acts(0, b, i)), 0);
                }
            }
        });
        // degrees 0 to 3 in a world of d 6, and 0
        int[][] traces = {{0, 2, 67, 5, 49, 22}, {1, 2, 67, 0, 25, 22}, {3, 2, 67, 58, 55, 57}, {6, 2, 67, 17, 7, 8}, {15, 2, 67, 1, 0, 60},
            {0, 2, 11, 0, 0, 6}, {1, 2, 11, 0, 5, 7}, {3, 2, 11, 0, 5, 3}, {0, 2, 7, 1, 0, 1}, {1, 2, 7, 0, 2, 1}, {2, 2, 7, 3, 3, 2},
            {2, 5, 5, 0, 1, 2}, {0, 3, 3, 0, 0, 1}};
        for (int[] t : traces) {
            due(java.util.Arrays.toString(t), with(t[1], t[2], t[3], t[4], t[5]).great(0, 0), t[0]);
        }
    }

    @Says(at = "Promise 19", value = "0 TRACE, 1 NORM.")
    static void p19Great() {
        PowersForTimes x = with(3, 10, 3, 0, 1);
        due("trace", x.great(0, 0), 6);
        due("norm", x.great(0, 1), 10);
    }

    @Says(at = "Promise 19", value = "NONE for others, and of another RANK.")
    static void p19GreatOfOthers() {
        PowersForTimes x = Made.RICH.make();
        due("trace of rank 2", x.great(1, 0), 7);
        due("norm of rank 2", x.great(1, 1), 13);
        for (int what = 0; what < 2; what++) {
            int w = what;
            for (int bad : NO_MODULES) {
                Edges.refused("module " + bad, NONE, y -> y.great(bad, w), Made.RICH);
            }
            Edges.refused("rank 1", NONE, y -> y.great(0, w), Made.RICH);
            Edges.refused("rank 1", NONE, y -> y.great(2, w), Made.RICH);
            for (int[] world : Edges.WORLDS) {
                due("rank 1", with(world[0], world[1], 1, 1).great(0, what), NONE);
                due("rank 3", with(world[0], world[1], 1, 1, 1, 1).great(0, what), NONE);
                due("rank 3, g2 0", with(world[0], world[1], 1, 1, 0, 1).great(0, what), NONE);
                Due.holds("rank 2", with(world[0], world[1], 1, 0, 1).great(0, what) >= 0);
            }
        }
        for (int bad : new int[] {-1, -2, 2, 3, LEAST, MOST}) {
            Edges.refused("what " + bad, NONE, y -> y.great(1, bad), Made.RICH);
        }
        // where the first module is of rank 2, and the second was, until it was undone
        x = with(2, 7, 2, 1, 1);
        x.module(1, 0, 1, 0);
        due("the second", x.great(1, 1), 5);
        due("undo", x.undo(), 1);
        due("the first", x.great(0, 1), 7);
        for (int bad : new int[] {1, 2, 9, 10, -1, LEAST, MOST}) {
            due("trace of module " + bad, x.great(bad, 0), NONE);
            due("norm of module " + bad, x.great(bad, 1), NONE);
        }
    }

    // ---- promises 20 to 22

    /** Maps by texts for one module: whether each is one of it and what it leads to, what its dual is. */
    private static void maps(String name, Naive w, int[] g, int[]... us) {
        for (int i = 0; i < us.length; i++) {
            int[] u = Naive.trim(us[i]);
            StringBuilder text = new StringBuilder("map 0");
            for (int k = 0; k < u.length; k++) {
                text.append("+").append(u[k]).append("*t^").append(k);
            }
            PowersForTimes x = with(w.q, w.m, g);
            due(name + "text", Edges.read(x, text + ";"), 0);
            due(name + "told", x.told(0), NONE);
            String call = name + text + " ";
            int[] v = w.lead(u, g);
            for (int k = 0; k < 4; k++) {
                due(call + "leads " + k, x.leads(0, 0, k), v == null ? NONE : k < v.length ? v[k] : 0);
            }
            int a = w.dual(u, g);
            due(call + "dual", x.dual(0, 0, NONE), a);
            int[] c = a < 0 ? null : w.by(w.actsAs(g, a), u);
            for (int k = 0; k <= 24; k++) {
                due(call + "dual " + k, x.dual(0, 0, k), c == null ? NONE : k < c.length ? c[k] : 0);
            }
        }
    }

    @Says(at = "III", value = {"A MAP u is one of a MODULE, if there is a TURNED V with V u = u G.", "It leads to V."})
    static void iiiMapsOfModules() {
        each((name, x, w, g) -> {
            int last = w.n - 1;
            // figures and powers of t are maps of all; G itself; others may be or not
            maps(name, w, g, new int[] {1}, new int[] {last}, new int[] {0, 1}, new int[] {0, 0, 0, 0, 0, 0, 0, 1}, new int[] {0, 0, 0, 0, 0, 0, 0, last},
                new int[] {1, 1}, new int[] {last, 1}, new int[] {1, 0, 1}, new int[] {last, 1, 1}, g, w.times(g, g), new int[] {1, 0, 0, 0, 0, 0, 0, 1},
                w.make(g, 1), w.make(g, last), w.make(g, w.n / 2), w.make(g, 0));
        });
        PowersForTimes x = with(2, 7, 2, 1, 1);
        x.map(1, 0, 0);
        x.map(2, 0, 0);
        x.map(0, 1, 0);
        x.map(1, 1, 0);
        int[][] want = {{2, 1, 1, 0}, {2, 3, 1, 0}, {3, 1, 1, 0}, {NONE, NONE, NONE, NONE}};
        for (int map = 0; map < 4; map++) {
            for (int i = 0; i < 4; i++) {
                due("leads(" + map + ", 0, " + i + ")", x.leads(map, 0, i), want[map][i]);
            }
        }
    }

    @Says(at = "III", value = "DUAL: the least MONIC number a (of DEGREE 4 at most, and a ACTS with DEGREE 24 at most) for which there is a TURNED w with w u = what a ACTS as; w.")
    static void iiiDual() {
        // what is made of a rest: the dual's number is what sends the rest to 0; of degrees 0 to 4, and above
        int[][] made = {{2, 131, 115, 27, 0, 0, 0, 1}, {2, 131, 0, 77, 85, 0, 74, 2}, {2, 131, 82, 62, 0, 0, 85, 4}, {2, 131, 0, 57, 66, 0, 9, 14},
            {2, 131, 66, 86, 42, 0, 60, 19}, {2, 131, 31, 102, 103, 0, 50, NONE}, {2, 131, 84, 80, 0, 0, 29, NONE}, {2, 131, 0, 4, 119, 34, 103, NONE},
            {2, 67, 0, 28, 33, 0, 4, 28}, {2, 67, 33, 43, 21, 0, 30, NONE}, {2, 37, 21, 20, 0, 0, 7, 22}, {2, 37, 5, 5, 18, 0, 7, NONE},
            {3, 86, 44, 52, 25, 0, 69, 108}, {3, 86, 0, 20, 75, 0, 50, 35}, {5, 131, 0, 86, 114, 0, 14, 132}, {2, 19, 2, 2, 9, 0, 3, 23}};
        for (int[] m : made) {
            PowersForTimes x = with(m[0], m[1], m[2], m[3], m[4], m[5]);
            Naive w = new Naive(m[0], m[1]);
            int[] g = Naive.trim(new int[] {m[2], m[3], m[4], m[5]});
            String name = java.util.Arrays.toString(m);
            due(name, x.made(0, m[6]), 0);
            due(name + " dual", x.dual(0, 0, NONE), m[7]);
            int[] u = w.make(g, m[6]);
            int[] c = m[7] < 0 ? null : w.by(w.actsAs(g, m[7]), u);
            for (int i = 0; i <= 24; i++) {
                due(name + " dual " + i, x.dual(0, 0, i), c == null ? NONE : i < c.length ? c[i] : 0);
            }
            if (c != null) {
                due(name + " degrees", Naive.trim(c).length + u.length - 2, (Naive.figures(m[7], m[0]).length - 1) * (g.length - 1));
            }
        }
        // t: the characteristic, of degree 4 and of degree 5
        PowersForTimes x = with(2, 19, 8, 10, 5);
        x.map(0, 1, 0);
        due("of degree 4", x.about(0, 0), 31);
        due("of degree 4", x.dual(0, 0, NONE), 31);
        due("w begins with t", x.dual(0, 0, 0), 0);
        due("w, of degree 7", x.dual(0, 0, 7), x.acts(0, 31, 8));
        x = with(2, 37, 16, 21, 10);
        x.map(0, 1, 0);
        due("of degree 5", x.about(0, 0), 37);
        Due.holds("t is one of the module", x.leads(0, 0, 0) >= 0);
        due("of degree 5", x.dual(0, 0, NONE), NONE);
        // by rank 3 a of degree 4 acts with degree 12
        x = with(2, 19, 2, 1, 0, 1);
        x.map(0, 1, 0);
        due("of rank 3", x.dual(0, 0, NONE), 19);
        due("w, of degree 11", x.dual(0, 0, 11), x.acts(0, 19, 12));
        due("w, of degree 11", x.dual(0, 0, 12), 0);
    }

    @Says(at = "Promise 20", value = "What a MAP of a MODULE leads to: its coefficient of t^i (0 .. 3).")
    static void p20Leads() {
        for (int rank = 1; rank <= 3; rank++) {
            PowersForTimes x = with(2, 7, 2, 1, rank > 1 ? 3 : 0, rank > 2 ? 2 : 0);
            x.map(0, 1, 0);
            int[] want = {3, 1, rank > 1 ? 2 : 0, rank > 2 ? 3 : 0};
            for (int i = 0; i < 4; i++) {
                due("rank " + rank + ", of t^" + i, x.leads(0, 0, i), want[i]);
            }
        }
    }

    @Says(at = "Promise 20", value = "NONE: it is no MAP of that, and for others.")
    static void p20LeadsOfOthers() {
        PowersForTimes x = with(2, 7, 2, 1, 1);
        x.map(1, 1, 0);
        x.map(0, 1, 0);
        x.module(1, 1, 0, 0);
        for (int i = 0; i < 4; i++) {
            due("no map of that", x.leads(0, 0, i), NONE);
            Due.holds("a map of that", x.leads(1, 0, i) >= 0);
            Due.holds("a map of the other", x.leads(0, 1, i) >= 0);
        }
        noModules("leads", (y, module) -> y.leads(1, module, 0));
        noMaps("leads", (y, map) -> y.leads(map, 0, 0));
        for (int bad : new int[] {-1, -2, 4, 5, 24, LEAST, MOST}) {
            due("i " + bad, x.leads(1, 0, bad), NONE);
            Edges.refused("i " + bad, NONE, y -> y.leads(1, 0, bad), Made.RICH);
        }
    }

    @Says(at = "Promise 21", value = "DUAL of a MAP of a MODULE: i NONE: the POLYNOMIAL a; else the coefficient of t^i of w (0 .. 24).")
    static void p21Dual() {
        PowersForTimes x = with(2, 7, 2, 1, 1);
        x.map(3, 1, 0);
        x.map(2, 0, 0);
        due("a", x.dual(0, 0, NONE), 2);
        int[] w = {3, 1};
        for (int i = 0; i <= 24; i++) {
            due("w, of t^" + i, x.dual(0, 0, i), i < 2 ? w[i] : 0);
        }
        due("of a figure: 1", x.dual(1, 0, NONE), 1);
        due("w: 1 by 2", x.dual(1, 0, 0), 3);
        due("w, of t^24", x.dual(1, 0, 24), 0);
    }

    @Says(at = "Promise 21", value = "NONE: none, and for others.")
    static void p21DualOfOthers() {
        PowersForTimes x = with(2, 7, 2, 1, 1);
        x.map(1, 1, 0);
        x.map(0, 1, 0);
        for (int i = -1; i <= 24; i++) {
            due("no map of that", x.dual(0, 0, i), NONE);
            Due.holds("a map of that", x.dual(1, 0, i) >= 0);
        }
        x = with(2, 37, 2, 1);
        x.map(0, 1, 0);
        Due.holds("a map of that", x.leads(0, 0, 0) >= 0);
        for (int i = -1; i <= 24; i++) {
            due("none: it would be of degree 5", x.dual(0, 0, i), NONE);
        }
        noModules("dual", (y, module) -> y.dual(1, module, NONE));
        noMaps("dual", (y, map) -> y.dual(map, 0, NONE));
        x = with(2, 7, 2, 1, 1);
        x.map(3, 1, 0);
        for (int bad : new int[] {-2, -3, 25, 26, LEAST, MOST}) {
            due("i " + bad, x.dual(0, 0, bad), NONE);
            Edges.refused("i " + bad, NONE, y -> y.dual(1, 0, bad), Made.RICH);
        }
    }

    @Says(at = "III", value = "MADE of a REST: the MAP with first figure 1 (the coefficient of its highest power) of least DEGREE that sends to 0 the REST and all that comes of it by T again and again.")
    static void iiiMade() {
        each((name, x, w, g) -> {
            int number = 0;
            for (int rest : new int[] {0, 1, w.n / 2, w.n - 1}) {
                int[] u = w.make(g, rest);
                due(name + "made " + rest, x.made(0, rest), number);
                Edges.row(x, true, number, u);
                int degree = x.of(true, number, NONE);
                due(name + "first figure", x.of(true, number, degree), 1);
                int y = rest;
                for (int i = 0; i <= w.d; i++) {
                    due(name + "it sends " + y + " to 0", x.send(number, y), 0);
                    y = x.act(0, w.q, y);
                }
                number++;
            }
        });
        // of 0: 1; of what T sends to 0: degree 1; of what spreads over all: degree d, t^d - 1
        PowersForTimes x = with(2, 131, 0, 4, 119, 34);
        due("of 0", x.made(0, 0), 0);
        Edges.row(x, true, 0, 1);
        due("of 103", x.made(0, 103), 1);
        Edges.row(x, true, 1, 1, 0, 0, 0, 0, 0, 0, 1);
        x = with(5, 131, 3, 0, 0, 1);
        due("T is 4: of 1", x.made(0, 1), 0);
        Edges.row(x, true, 0, 4, 1);
    }

    @Says(at = "Promise 22", value = "MADE of a REST: the number of that MAP.")
    static void p22Made() {
        PowersForTimes x = with(2, 7, 2, 1, 1);
        x.map(1, 0, 0);
        due("the second map", x.made(0, 3), 1);
        Edges.row(x, true, 1, 3, 1);
        due("steps", x.count(7), 3);
        due("undo", x.undo(), 2);
        due("maps", x.count(5), 1);
        due("redo", x.redo(), 3);
        Edges.row(x, true, 1, 3, 1);
        due("of the last rest, and of 0", x.made(0, 0), 2);
    }

    @Says(at = "Promise 22", value = "NONE for others, or if there are 10.")
    static void p22MadeOfOthers() {
        for (int bad : NO_MODULES) {
            Edges.refused("module " + bad, NONE, y -> y.made(bad, 1), Made.RICH);
        }
        Edges.refused("module 0", NONE, y -> y.made(0, 0), Made.NEW, Made.FULL_OF_BYTES);
        Edges.refused("module 10", NONE, y -> y.made(10, 0), Made.FULL_OF_MODULES);
        for (int bad : new int[] {9, 10, -1, LEAST, MOST}) {
            Edges.refused("rest " + bad, NONE, y -> y.made(0, bad), Made.RICH);
        }
        for (int rest = 0; rest < 4; rest++) {
            int r = rest;
            Edges.refused("there are 10", NONE, y -> y.made(0, r), Made.FULL_OF_MAPS, Made.FULL_OF_BOTH);
        }
        PowersForTimes x = with(2, 7, 2, 1, 1);
        for (int i = 0; i < 10; i++) {
            due("made", x.made(0, i % 4), i);
        }
        due("an 11th", x.made(0, 3), NONE);
        due("maps", x.count(5), 10);
        due("undo", x.undo(), 10);
        due("a 10th again", x.made(0, 3), 9);
        due("the last module's", Made.RICH.make().made(2, 8), 2);
    }

    // ---- promises 23 to 26

    @Says(at = "III", value = "ENDS for e (0 .. 2): how many TURNED u (0, too) of DEGREE e at most have u G = G u.")
    static void iiiEnds() {
        each((name, x, w, g) -> {
            for (int e = 0; e <= 2; e++) {
                int tries = e == 0 ? w.n : e == 1 ? w.n * w.n : w.n * w.n * w.n;
                if (tries < 5000) {
                    due(name + "ends " + e, x.ends(0, e), w.ends(g, e));
                }
                Due.holds(name + "figures and 0, at least", x.ends(0, e) >= w.q);
            }
        });
        // t^d goes with all: N rests, and N N, and N N N; G itself is of degree 1 or 2
        due("of t^2, in d 2", with(2, 7, 0, 0, 1).ends(0, 0), 4);
        due("of t^2, in d 2", with(2, 7, 0, 0, 1).ends(0, 1), 16);
        due("of t^2, in d 2", with(2, 7, 0, 0, 1).ends(0, 2), 64);
        due("of t^3, in d 3", with(5, 131, 0, 0, 0, 1).ends(0, 2), 1953125);
        due("0 and 1, in d 7", with(2, 131, 2, 1).ends(0, 0), 2);
        due("and G", with(2, 131, 2, 1).ends(0, 1), 4);
        due("and G G", with(2, 131, 2, 1).ends(0, 2), 8);
        due("and G, of degree 2", with(2, 131, 2, 1, 1).ends(0, 1), 2);
        due("and G, of degree 2", with(2, 131, 2, 1, 1).ends(0, 2), 4);
    }

    @Says(at = "Promise 23", value = "ENDS.")
    static void p23Ends() {
        PowersForTimes x = with(2, 7, 2, 1, 1);
        due("e 0", x.ends(0, 0), 2);
        due("e 1", x.ends(0, 1), 4);
        due("e 2", x.ends(0, 2), new Naive(2, 7).ends(new int[] {2, 1, 1}, 2));
    }

    @Says(at = "Promise 23", value = "NONE for others.")
    static void p23EndsOfOthers() {
        for (int e = 0; e <= 2; e++) {
            int d = e;
            noModules("ends " + e, (x, module) -> x.ends(module, d));
        }
        for (int bad : new int[] {-1, -2, 3, 4, LEAST, MOST}) {
            Edges.refused("e " + bad, NONE, x -> x.ends(0, bad), Made.RICH);
        }
    }

    @Says(at = "III", value = "ALIKE: two MODULES G, H: a REST c (not 0) with c G = H c: the least.")
    static void iiiAlike() {
        each((name, x, w, g) -> {
            due(name + "itself", x.alike(0, 0), 1);
            int number = 1;
            for (int c : new int[] {1, w.n - 1, (w.n + 1) / 2}) {
                int[] h = new int[4];
                for (int i = 0; i < g.length; i++) {
                    h[i] = w.by(w.times(c, g[i]), w.turn(c, i));
                }
                due(name + "module", x.module(h[0], h[1], h[2], h[3]), number);
                due(name + "alike by " + c, x.alike(0, number), w.alike(g, Naive.trim(h)));
                due(name + "back by " + c, x.alike(number, 0), w.alike(Naive.trim(h), g));
                Due.holds(name + "not 0", x.alike(0, number) > 0 && x.alike(0, number) <= Math.max(c, 1));
                number++;
            }
        });
        // c^2 is g1 by h1: two of them, and the least is told
        int[][] least = {{1, 1, 1}, {1, 2, 3}, {1, 3, 4}, {1, 6, 5}, {2, 1, 3}, {2, 2, 1}, {2, 3, 5}, {2, 6, 4}, {3, 1, 5}, {1, 4, NONE}, {1, 5, NONE}};
        for (int[] l : least) {
            PowersForTimes x = with(3, 10, 3, l[0]);
            x.module(3, l[1], 0, 0);
            due("alike by g1 " + l[0] + " and " + l[1], x.alike(0, 1), l[2]);
        }
    }

    @Says(at = "Promise 24", value = "ALIKE.")
    static void p24Alike() {
        PowersForTimes x = with(2, 7, 2, 1);
        x.module(2, 3, 0, 0);
        due("0 and 1", x.alike(0, 1), 2);
        due("1 and 0", x.alike(1, 0), 3);
        due("1 and 1", x.alike(1, 1), 1);
    }

    @Says(at = "Promise 24", value = "NONE: they aren't, and for others.")
    static void p24AlikeOfOthers() {
        PowersForTimes x = with(2, 7, 2, 1, 1);
        x.module(3, 1, 1, 0);
        x.module(2, 1, 0, 0);
        x.module(2, 1, 1, 1);
        x.module(2, 0, 1, 0);
        x.module(2, 1, 2, 0);
        for (int other = 1; other < 6; other++) {
            due("0 and " + other, x.alike(0, other), NONE);
            due(other + " and 0", x.alike(other, 0), NONE);
        }
        noModules("alike", (y, module) -> y.alike(module, module));
        for (int bad : NO_MODULES) {
            Edges.refused("0 and " + bad, NONE, y -> y.alike(0, bad), Made.RICH);
            Edges.refused(bad + " and 0", NONE, y -> y.alike(bad, 0), Made.RICH);
        }
    }

    @Says(at = "III", value = "CLASSES for g0 and a RANK: how many MODULES there are of which no two are ALIKE.")
    static void iiiClasses() {
        for (int[] world : new int[][] {{2, 2}, {2, 7}, {2, 11}, {2, 19}, {3, 3}, {3, 10}, {5, 5}, {5, 7}, {5, 27}}) {
            Naive w = new Naive(world[0], world[1]);
            PowersForTimes x = Edges.at(world[0], world[1]);
            for (int rank = 1; rank <= 3; rank++) {
                for (int g0 : new int[] {0, 1, w.n - 1}) {
                    if (rank < 3 || w.n < 12) {
                        due(world[0] + ", " + world[1] + ": classes(" + g0 + ", " + rank + ")", x.classes(g0, rank), w.classes(g0, rank).size());
                    }
                }
            }
        }
        // as many by every g0, and in the worlds with the most rests
        int[][] most = {{2, 131, 1, 128, 16384}, {3, 86, 2, 168, 13122}, {5, 131, 4, 500, 62620}};
        for (int[] m : most) {
            PowersForTimes x = Edges.at(m[0], m[1]);
            for (int rank = 1; rank <= 3; rank++) {
                for (int g0 = 0; g0 < x.count(3); g0 += 13) {
                    due(m[0] + ", " + m[1] + ": classes(" + g0 + ", " + rank + ")", x.classes(g0, rank), m[1 + rank]);
                }
            }
        }
    }

    @Says(at = "Promise 25", value = "CLASSES for g0 and a RANK (1 .. 3).")
    static void p25Classes() {
        PowersForTimes x = Edges.at(2, 7);
        due("rank 1", x.classes(2, 1), 1);
        due("rank 2", x.classes(2, 2), 6);
        due("rank 3", x.classes(2, 3), 16);
        due("g0 0", x.classes(0, 1), 1);
        due("g0 3", x.classes(3, 1), 1);
    }

    @Says(at = "Promise 25", value = "NONE for others.")
    static void p25ClassesOfOthers() {
        for (int bad : new int[] {0, 4, 5, -1, LEAST, MOST}) {
            due("rank " + bad, Edges.at(2, 7).classes(2, bad), NONE);
            Edges.refused("rank " + bad, NONE, x -> x.classes(1, bad), Made.RICH);
        }
        for (int bad : new int[] {9, 10, -1, LEAST, MOST}) {
            for (int rank = 1; rank <= 3; rank++) {
                int r = rank;
                Edges.refused("g0 " + bad, NONE, x -> x.classes(bad, r), Made.RICH);
            }
        }
    }

    @Says(at = "III", value = "GREATEST for g0: how many such of RANK 2 have HEIGHT 2.")
    static void iiiGreatest() {
        for (int[] world : new int[][] {{2, 2}, {2, 7}, {2, 11}, {2, 19}, {2, 37}, {3, 3}, {3, 10}, {3, 34}, {5, 5}, {5, 27}}) {
            Naive w = new Naive(world[0], world[1]);
            PowersForTimes x = Edges.at(world[0], world[1]);
            for (int g0 = 0; g0 < w.n; g0 += 1 + g0 / 4) {
                due(world[0] + ", " + world[1] + ": greatest(" + g0 + ")", x.greatest(g0), w.greatest(g0));
            }
        }
        // g0 a figure leaves g1 0: as many as c^(q^2 - 1) leaves apart
        due("g0 0", Edges.at(2, 131).greatest(0), 1);
        due("g0 0", Edges.at(3, 86).greatest(0), 8);
        due("g0 124", Edges.at(5, 131).greatest(124), 24);
        due("g0 80", Edges.at(3, 86).greatest(80), new Naive(3, 86).greatest(80));
        due("g0 127", Edges.at(2, 131).greatest(127), new Naive(2, 131).greatest(127));
    }

    @Says(at = "Promise 26", value = "GREATEST for g0.")
    static void p26Greatest() {
        PowersForTimes x = Edges.at(2, 7);
        due("0", x.greatest(0), 3);
        due("1", x.greatest(1), 3);
        due("2", x.greatest(2), 1);
        due("3", x.greatest(3), 1);
    }

    @Says(at = "Promise 26", value = "NONE for others.")
    static void p26GreatestOfOthers() {
        due("4", Edges.at(2, 7).greatest(4), NONE);
        due("127", Edges.at(2, 131).greatest(127), 15);
        due("128", Edges.at(2, 131).greatest(128), NONE);
        for (int bad : new int[] {9, 10, -1, LEAST, MOST}) {
            Edges.refused("g0 " + bad, NONE, x -> x.greatest(bad), Made.RICH);
        }
    }
}
