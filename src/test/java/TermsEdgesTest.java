/** Each sentence of the document's Terms, at the edges that it names. */
public final class TermsEdgesTest {
    private static final int LEAST = Edges.LEAST;
    private static final int MOST = Edges.MOST;

    public static void main(String[] args) {
        Edges.run(TermsEdgesTest.class);
    }

    private static void due(String call, int got, int want) {
        Due.due(call, got, want);
    }

    @Says(at = "Terms", value = "POLYNOMIALS over 0 .. q - 1 (reckoned mod q, a prime) are numbers: figures to the base q, the last one the constant;")
    static void termsPolynomialsAreFiguresToTheBaseQ() {
        for (int q : Edges.BASES) {
            PowersForTimes x = Edges.at(q, q);
            due("q - 1 + 1 is 0", x.poly(0, q - 1, 1), 0);
            due("q - 2 + 1 is q - 1", x.poly(0, q - 2, 1), q - 1);
            due("0 - 1 is q - 1", x.poly(1, 0, 1), q - 1);
            due("(q - 1)^2 is 1", x.poly(2, q - 1, q - 1), 1);
            due("T + 1: no figure goes over into the next", x.poly(0, q, 1), q + 1);
            due("T + q - 1, and 1", x.poly(0, q + q - 1, 1), q);
            due("T T", x.poly(2, q, q), q * q);
            due("T (T + 1)", x.poly(2, q, q + 1), q * q + q);
            due("the last one of T^2 + 1", x.poly(3, q * q + 1, q), 1);
        }
        PowersForTimes x = Edges.at(5, 5);
        // 4 T^2 + 3 T + 2, and 3 T^2 + 4 T + 4
        due("117 + 99", x.poly(0, 117, 99), 61);
        due("117 - 99", x.poly(1, 117, 99), 48);
    }

    @Says(at = "Terms", value = "DEGREE 12 at most")
    static void termsPolynomialsOfDegreeTwelveAtMost() {
        for (int q : Edges.BASES) {
            int over = Edges.power(q, 13);
            for (int a : new int[] {over - 1, over - 2, over / q, over / q - 1, 1}) {
                polynomial(q, a, true);
            }
            for (int a : new int[] {over, over + 1, over + over / q, -1, -over, LEAST, MOST}) {
                polynomial(q, a, false);
            }
        }
        int over = 1594323;
        for (int bad : new int[] {-1, over}) {
            for (int how = 0; how < 6; how++) {
                int h = how;
                Edges.refused("poly " + how + " of " + bad, -1, x -> x.poly(h, bad, 1), Made.RICH);
                Edges.refused("poly " + how + " by " + bad, -1, x -> x.poly(h, 1, bad), Made.RICH);
            }
            Edges.refused("act " + bad, -1, x -> x.act(0, bad, 1), Made.RICH);
            Edges.refused("acts " + bad, -1, x -> x.acts(0, bad, 0), Made.RICH);
            Edges.refused("noughts " + bad, -1, x -> x.noughts(0, bad, -1), Made.RICH);
            Edges.refused("symbol " + bad, -1, x -> x.symbol(bad, 3), Made.RICH);
            Edges.refused("factors " + bad, -1, x -> x.factors(bad, -1), Made.RICH);
        }
    }

    /** Whether each call that takes a polynomial takes this number for one. */
    private static void polynomial(int q, int a, boolean is) {
        PowersForTimes x = Edges.at(q, q);
        due("module", x.module(1, 1, 0, 0), 0);
        String name = "q " + q + ", " + a + ": ";
        int lowest = a % q;
        due(name + "a + 0", x.poly(0, a, 0), is ? a : -1);
        due(name + "0 + a", x.poly(0, 0, a), is ? a : -1);
        due(name + "a - 0", x.poly(1, a, 0), is ? a : -1);
        due(name + "a - a", x.poly(1, a, a), is ? 0 : -1);
        due(name + "a 1", x.poly(2, a, 1), is ? a : -1);
        due(name + "1 a", x.poly(2, 1, a), is ? a : -1);
        due(name + "a leaves by T", x.poly(3, a, q), is ? lowest : -1);
        due(name + "0 leaves by a", x.poly(3, 0, a), is ? 0 : -1);
        due(name + "a by 1", x.poly(4, a, 1), is ? a : -1);
        due(name + "a by a", x.poly(4, a, a), is ? 1 : -1);
        due(name + "common of a, 1", x.poly(5, a, 1), is ? 1 : -1);
        due(name + "common of 1, a", x.poly(5, 1, a), is ? 1 : -1);
        due(name + "what a makes of 0", x.act(0, a, 0), is ? 0 : -1);
        Due.holds(name + "acts", x.acts(0, a, 0) >= 0 == is);
        Due.holds(name + "noughts", x.noughts(0, a, -1) >= 1 == is);
        due(name + "symbol over T", x.symbol(a, q), is ? lowest : -1);
        Due.holds(name + "factors", x.factors(a, -1) >= 0 == is);
    }

    @Says(at = "Terms", value = "(0 has none).")
    static void termsNoughtHasNoDegree() {
        for (int q : Edges.BASES) {
            int top = Edges.power(q, 12);
            PowersForTimes x = Edges.at(q, q);
            x.module(1, 0, 0, 1);
            // 0 makes no product of a degree above 12, 1 and T do as theirs is 0 and 1
            due("0 T^12", x.poly(2, 0, top), 0);
            due("T^12 0", x.poly(2, top, 0), 0);
            due("0 0", x.poly(2, 0, 0), 0);
            due("1 T^12", x.poly(2, 1, top), top);
            due("T T^12", x.poly(2, q, top), -1);
            due("0 is not of degree 1 to 6", x.symbol(1, 0), -1);
            due("0 has no first figure to make 1", x.poly(5, 0, 0), 0);
            for (int i = 0; i <= 24; i++) {
                due("0 acts as 0", x.acts(0, 0, i), 0);
            }
            due("0 sends all to 0", x.noughts(0, 0, -1), q);
        }
    }

    @Says(at = "Terms", value = "MONIC: its first figure is 1.")
    static void termsMonicHasFirstFigureOne() {
        for (int q : Edges.BASES) {
            PowersForTimes x = Edges.at(q, q);
            for (int m = q; m < q * q; m++) {
                boolean monic = m < 2 * q;
                due("world(" + q + ", " + m + ")", x.world(q, m), monic ? q : -1);
                due("symbol of 1 over " + m, x.symbol(1, m), monic ? 1 : -1);
                due("common of " + m + " and itself", x.poly(5, m, m) / q, 1);
                Due.holds("factor of " + m, x.factors(m, 0) / q == 1);
            }
            int cube = Edges.power(q, 3);
            for (int first = 1; first < q; first++) {
                due("symbol over " + first + " T^3", x.symbol(1, first * cube), first == 1 ? 1 : -1);
            }
        }
    }

    @Says(at = "Terms", value = "PRIME: MONIC, of DEGREE 1 or more, not a product of two of lesser DEGREE.")
    static void termsPrimes() {
        // how many primes there are of each degree that a world can have
        int[][] primes = {{}, {}, {0, 2, 1, 2, 3, 6, 9, 18}, {0, 3, 3, 8, 18}, {}, {0, 5, 10, 40}};
        for (int q : Edges.BASES) {
            for (int degree = 0; degree < primes[q].length; degree++) {
                PowersForTimes x = Edges.at(q, q);
                int start = Edges.power(q, degree);
                int worlds = 0;
                int single = 0;
                for (int m = start; m < q * start; m++) {
                    boolean is = x.factors(m, -1) == 1;
                    boolean has = new PowersForTimes().world(q, m) == start;
                    single += is && m < 2 * start ? 1 : 0;
                    worlds += has ? 1 : 0;
                    Due.holds(q + ": " + m + " is prime to both", has == (is && m < 2 * start));
                }
                due(q + ": worlds of degree " + degree, worlds, primes[q][degree]);
                due(q + ": primes of degree " + degree, single, primes[q][degree]);
            }
        }
        PowersForTimes x = new PowersForTimes();
        for (int[] no : new int[][] {{2, 0}, {2, 1}, {3, 1}, {3, 2}, {5, 1}, {5, 4}}) {
            due("of degree 0, or none: " + no[1], x.world(no[0], no[1]), -1);
        }
        // without roots, and yet products: (T^2 + T + 1)^2, (T^2 + 1)^2, and of two of degree 3
        due("21", x.world(2, 21), -1);
        due("100", x.world(3, 100), -1);
        due("(T^3 + T + 1)(T^3 + T^2 + 1)", x.world(2, 127), -1);
        due("T^6 + T + 1", x.world(2, 67), 64);
    }

    @Says(at = "Terms", value = "A WORLD: q (2, 3, 5) and a PRIME M of DEGREE d, q to the power of d (N) being 128 at most.")
    static void termsWorlds() {
        PowersForTimes x = new PowersForTimes();
        int[][] last = {{2, 131, 128, 7}, {3, 86, 81, 4}, {5, 131, 125, 3}, {2, 67, 64, 6}, {3, 34, 27, 3}, {5, 27, 25, 2}};
        for (int[] w : last) {
            due("world(" + w[0] + ", " + w[1] + ")", x.world(w[0], w[1]), w[2]);
            due("q", x.count(0), w[0]);
            due("M", x.count(1), w[1]);
            due("d", x.count(2), w[3]);
            due("N", x.count(3), w[2]);
        }
        // primes all, but of degrees above 7, 4 and 3, up to 12
        int[][] over = {{2, 283}, {2, 515}, {2, 4105}, {3, 250}, {3, 734}, {3, 531452}, {5, 627}, {5, 3146}, {5, 244140634}};
        for (int[] w : over) {
            due("world", x.world(w[0], w[0]), w[0]);
            due(w[0] + ": " + w[1] + " is a prime", x.factors(w[1], -1), 1);
            due(w[0] + ": " + w[1] + " is no product", x.factors(w[1], 0), w[1]);
            Edges.refused("world(" + w[0] + ", " + w[1] + ")", -1, y -> y.world(w[0], w[1]), Made.NEW, Made.RICH);
        }
        for (int q : new int[] {LEAST, -5, -3, -2, -1, 0, 1, 4, 6, 7, 8, 9, 25, MOST}) {
            for (int m : new int[] {1, 2, 3, 5, 7, q}) {
                due("world(" + q + ", " + m + ")", x.world(q, m), -1);
            }
            Edges.refused("world(" + q + ", 7)", -1, y -> y.world(q, 7), Made.NEW, Made.RICH);
        }
    }

    @Says(at = "Terms", value = "RESTS 0 .. N - 1: POLYNOMIALS of lesser DEGREE than d, reckoned mod M.")
    static void termsRests() {
        for (int[] w : Edges.WORLDS) {
            int n = w[2];
            for (int rest : new int[] {0, 1, n - 2, n - 1}) {
                rest(w, rest, true);
            }
            for (int rest : new int[] {n, n + 1, 2 * n, -1, -n, LEAST, MOST}) {
                rest(w, rest, false);
            }
        }
        PowersForTimes x = Edges.at(2, 131);
        due("x^6 x is x^7, x + 1", x.work(2, 64, 2), 3);
        x = Edges.at(3, 86);
        // x^4 is -x - 2
        due("x^3 x", x.work(2, 27, 3), 7);
        x = Edges.at(5, 131);
        // x^3 is -x - 1
        due("x^2 x", x.work(2, 25, 5), 24);
        x = Edges.at(5, 8);
        // x is -3, but it is told by its rest, 2
        due("2 2", x.work(2, 2, 2), 4);
        due("4 4", x.work(2, 4, 4), 1);
    }

    /** Whether each call that takes a rest takes this number for one; where not, all stays as it is. */
    private static void rest(int[] w, int rest, boolean is) {
        PowersForTimes x = Edges.at(w[0], w[1]);
        x.module(1, 1, 0, 0);
        x.map(1, 1, 0);
        String name = "world " + w[0] + ", " + w[1] + ", rest " + rest + ": ";
        due(name + "a + 0", x.work(0, rest, 0), is ? rest : -1);
        due(name + "0 + a", x.work(0, 0, rest), is ? rest : -1);
        due(name + "a - 0", x.work(1, rest, 0), is ? rest : -1);
        due(name + "a - a", x.work(1, rest, rest), is ? 0 : -1);
        due(name + "a 1", x.work(2, rest, 1), is ? rest : -1);
        due(name + "1 a", x.work(2, 1, rest), is ? rest : -1);
        due(name + "a by 1", x.work(3, rest, 1), is ? rest : -1);
        due(name + "0 by a", x.work(3, 0, rest), is && rest != 0 ? 0 : -1);
        Due.holds(name + "act", x.act(0, 1, rest) == (is ? rest : -1));
        Due.holds(name + "send", x.send(0, rest) >= 0 == is);
        Due.holds(name + "classes", x.classes(rest, 1) >= 1 == is);
        Due.holds(name + "greatest", x.greatest(rest) >= 0 == is);
        due(name + "g0", x.module(rest, 1, 0, 0), is ? 1 : -1);
        due(name + "g1", x.module(1, rest, 1, 0), is ? 2 : -1);
        due(name + "g2", x.module(1, 0, rest, 1), is ? 3 : -1);
        due(name + "g3", x.module(1, 1, 0, rest), is ? 4 : -1);
        due(name + "c0", x.map(rest, 1, 0), is ? 1 : -1);
        due(name + "c1", x.map(1, rest, 0), is ? 2 : -1);
        due(name + "c2", x.map(1, 0, rest), is ? 3 : -1);
        due(name + "made", x.made(0, rest), is ? 4 : -1);
        due(name + "modules", x.count(4), is ? 5 : 1);
        due(name + "maps", x.count(5), is ? 5 : 1);
        due(name + "steps", x.count(7), is ? 10 : 2);
        if (is) {
            due(name + "of g0", x.of(false, 1, 0), rest);
            due(name + "of g1", x.of(false, 2, 1), rest);
            due(name + "of g2", x.of(false, 3, 2), rest);
            due(name + "of g3", x.of(false, 4, 3), rest);
            due(name + "of c0", x.of(true, 1, 0), rest);
            due(name + "of c1", x.of(true, 2, 1), rest);
            due(name + "of c2", x.of(true, 3, 2), rest);
        }
    }

    @Says(at = "Terms", value = "RESTS 0 .. N - 1:")
    static void termsWhatIsNoRestChangesNothing() {
        for (int bad : new int[] {-1, 9, LEAST, MOST}) {
            Edges.refused("module g0 " + bad, -1, x -> x.module(bad, 1, 1, 1), Made.RICH);
            Edges.refused("module g1 " + bad, -1, x -> x.module(1, bad, 1, 1), Made.RICH);
            Edges.refused("module g2 " + bad, -1, x -> x.module(1, 1, bad, 1), Made.RICH);
            Edges.refused("module g3 " + bad, -1, x -> x.module(1, 1, 1, bad), Made.RICH);
            Edges.refused("map c0 " + bad, -1, x -> x.map(bad, 1, 1), Made.RICH);
            Edges.refused("map c1 " + bad, -1, x -> x.map(1, bad, 1), Made.RICH);
            Edges.refused("map c2 " + bad, -1, x -> x.map(1, 1, bad), Made.RICH);
            Edges.refused("made " + bad, -1, x -> x.made(0, bad), Made.RICH);
            Edges.refused("act " + bad, -1, x -> x.act(0, 3, bad), Made.RICH);
            Edges.refused("send " + bad, -1, x -> x.send(0, bad), Made.RICH);
            Edges.refused("classes " + bad, -1, x -> x.classes(bad, 2), Made.RICH);
            Edges.refused("greatest " + bad, -1, x -> x.greatest(bad), Made.RICH);
            for (int how = 0; how < 4; how++) {
                int h = how;
                Edges.refused("work " + how + " of " + bad, -1, x -> x.work(h, bad, 1), Made.RICH);
                Edges.refused("work " + how + " by " + bad, -1, x -> x.work(h, 1, bad), Made.RICH);
            }
        }
    }

    @Says(at = "Terms", value = "TURNED polynomials: c0 + c1 t + c2 t^2 + .. (RESTS; DEGREE 24 at most), with t c = c^q t.")
    static void termsTurned() {
        // t 2 in each: x^2 = x + 1; x^3 = x x^2 = -x; x^5 = x 9 = 4 x; x^2; x^3; x^5 = x^2 x^3 = -x^3 - x^2
        int[][] turns = {{2, 7, 2, 3}, {3, 10, 3, 6}, {5, 27, 5, 20}, {2, 131, 2, 4}, {3, 86, 3, 27}, {5, 131, 5, 106}};
        for (int[] w : turns) {
            PowersForTimes x = Edges.at(w[0], w[1]);
            due("text", Edges.read(x, "map t*" + w[2] + ";map " + w[2] + "*t;map t*" + (w[0] - 1) + ";"), 0);
            due("told", x.told(0), -1);
            Edges.row(x, true, 0, 0, w[3]);
            Edges.row(x, true, 1, 0, w[2]);
            Edges.row(x, true, 2, 0, w[0] - 1);
            x.module(0, 1, 0, 0);
            x.map(w[2], 0, 0);
            // t c = V t
            x.map(0, 1, 0);
            x.module(w[2], 1, 0, 0);
            due("t leads", x.leads(4, 1, 0), w[3]);
        }
        PowersForTimes x = Edges.at(2, 7);
        due("text", Edges.read(x, "map t^24-t^24+1;map (t^12)^2+t-t^24;map t*t^24;"), 0);
        due("degree 24 can be, 25 can't", x.told(0), 2);
        Edges.row(x, true, 0, 1);
        Edges.row(x, true, 1, 0, 1);
        due("text", Edges.read(x, "map t^23*t*0+1;map t^23*(t^2)*0+1;"), 1);
        due("degree 24 can be, 25 can't", x.told(1), 1);
    }

    @Says(at = "Terms", value = "Of a REST x: c0 x + c1 x^q + c2 x^(q^2) + .. .")
    static void termsTurnedOfRests() {
        // x^3 = x + 1, x^4 = x^2 + x
        PowersForTimes x = Edges.at(2, 11);
        x.map(1, 0, 0);
        x.map(0, 1, 0);
        x.map(0, 0, 1);
        x.map(1, 1, 1);
        x.map(2, 4, 6);
        due("x", x.send(0, 2), 2);
        due("x^2", x.send(1, 2), 4);
        due("x^4", x.send(2, 2), 6);
        due("x + x^2 + x^4", x.send(3, 2), 0);
        // x x + x^2 x^2 + (x^2 + x)(x^2 + x) = x^2 + x^2 + x + x
        due("2 x + 4 x^2 + 6 x^4", x.send(4, 2), x.work(0, x.work(0, 4, 6), x.work(2, 6, 6)));
        due("text", Edges.read(x, "map t^7;map t^3;map t^6+t;"), 0);
        due("told", x.told(0), -1);
        due("x^128 is x^2", x.send(5, 2), 4);
        due("x^8 is x", x.send(6, 2), 2);
        due("x^64 + x^2", x.send(7, 2), 6);
        for (int map = 0; map < 8; map++) {
            due("of 0", x.send(map, 0), 0);
        }
        x = Edges.at(5, 131);
        x.map(0, 1, 0);
        x.map(0, 0, 1);
        int fifth = 1;
        int all = 1;
        for (int i = 0; i < 25; i++) {
            fifth = i < 5 ? x.work(2, fifth, 5) : fifth;
            all = x.work(2, all, 5);
        }
        due("x^5", x.send(0, 5), fifth);
        due("x^25", x.send(1, 5), all);
    }

    @Says(at = "Terms", value = "MODULES 0 .. 9: g0 + g1 t + .. + gr t^r, r (its RANK) 1 to 3, gr not 0.")
    static void termsModules() {
        PowersForTimes x = Edges.at(2, 7);
        due("rank 0", x.module(3, 0, 0, 0), -1);
        due("0", x.module(0, 0, 0, 0), -1);
        due("rank 1", x.module(0, 2, 0, 0), 0);
        due("rank 2", x.module(3, 0, 3, 0), 1);
        due("rank 3", x.module(0, 0, 0, 1), 2);
        Edges.row(x, false, 0, 0, 2);
        Edges.row(x, false, 1, 3, 0, 3);
        Edges.row(x, false, 2, 0, 0, 0, 1);
        due("text", Edges.read(x, "module t;module t^3+0*t^4;module t^4;"), 0);
        due("rank 4", x.told(0), 2);
        due("text", Edges.read(x, "module 3*t^0;"), 1);
        due("rank 0", x.told(1), 0);
        due("modules", x.count(4), 5);
        for (int i = 5; i < 10; i++) {
            due("module " + i, x.module(1, 1, 0, 0), i);
        }
        Edges.row(x, false, 9, 1, 1);
        due("an 11th", x.module(1, 1, 0, 0), -1);
        due("an 11th", x.told(0), 0);
        due("module 10", x.of(false, 10, -1), -1);
        Edges.refused("rank 0", -1, y -> y.module(3, 0, 0, 0), Made.values());
    }

    @Says(at = "Terms", value = "A POLYNOMIAL a = a0 + a1 T + .. ACTS by a MODULE as the TURNED a0 + a1 G + a2 G G + .. (G the MODULE), DEGREE 24 at most")
    static void termsActs() {
        int[][] g = {{2, 1}, {2, 1, 1}, {2, 1, 0, 1}};
        PowersForTimes x = Edges.at(2, 7);
        Naive w = new Naive(2, 7);
        // degrees 8 to 12: by rank 3 8 is 24, by rank 2 12 is 24
        for (int a : new int[] {0, 1, 2, 5, 255, 256, 511, 512, 1024, 2048, 4095, 4096, 8191}) {
            x = Edges.at(2, 7);
            x.module(2, 1, 0, 0);
            x.module(2, 1, 1, 0);
            x.module(2, 1, 0, 1);
            for (int module = 0; module < 3; module++) {
                int[] c = w.actsAs(g[module], a);
                boolean is = c.length <= 25;
                for (int i = 0; i <= 24; i++) {
                    due(module + " acts " + a + ", " + i, x.acts(module, a, i), is ? i < c.length ? c[i] : 0 : -1);
                }
            }
        }
        due("of degree 24", x.acts(1, 4096, 24), 1);
        due("of degree 24", x.acts(2, 256, 24), 1);
        due("of degree 24", x.acts(2, 511, 24), 1);
        due("of degree 27", x.acts(2, 512, 24), -1);
        due("of degree 36", x.acts(2, 4096, 0), -1);
    }

    @Says(at = "Terms", value = "(what it makes of RESTS is told of any POLYNOMIAL).")
    static void termsActsOnRestsByAnyPolynomial() {
        PowersForTimes x = Edges.at(2, 7);
        x.module(2, 1, 0, 1);
        Naive w = new Naive(2, 7);
        int[] g = {2, 1, 0, 1};
        for (int a : new int[] {256, 511, 512, 1023, 1024, 4095, 4096, 8190, 8191}) {
            int many = 0;
            for (int rest = 0; rest < 4; rest++) {
                int made = w.act(g, a, rest);
                due("act " + a + " " + rest, x.act(0, a, rest), made);
                many += made == 0 ? 1 : 0;
            }
            due("noughts " + a, x.noughts(0, a, -1), many);
            Due.holds("of degree 24 or above", x.acts(0, a, 0) == -1 == a >= 512);
        }
    }

    @Says(at = "Terms", value = "MAPS 0 .. 9: TURNED, of DEGREE 7 at most, not 0.")
    static void termsMaps() {
        PowersForTimes x = Edges.at(2, 7);
        due("0", x.map(0, 0, 0), -1);
        due("degree 0", x.map(1, 0, 0), 0);
        due("degree 1", x.map(0, 3, 0), 1);
        due("degree 2", x.map(0, 0, 2), 2);
        due("text", Edges.read(x, "map t^6;map 3*t^7+2;map t^8-t^8+t;map t^8;"), 0);
        due("degree 8", x.told(0), 3);
        Edges.row(x, true, 0, 1);
        Edges.row(x, true, 3, 0, 0, 0, 0, 0, 0, 1);
        Edges.row(x, true, 4, 2, 0, 0, 0, 0, 0, 0, 3);
        Edges.row(x, true, 5, 0, 1);
        due("text", Edges.read(x, "map t;map t-t;"), 1);
        due("0", x.told(1), 1);
        for (int i = 7; i < 10; i++) {
            due("map " + i, x.map(3, 1, 0), i);
        }
        Edges.row(x, true, 9, 3, 1);
        due("an 11th", x.map(3, 1, 0), -1);
        due("an 11th", x.told(1), 0);
        due("map 10", x.of(true, 10, -1), -1);
        Edges.refused("0", -1, y -> y.map(0, 0, 0), Made.values());
        x = Edges.at(2, 7);
        due("text", Edges.read(x, "map 1+2*t+3*t^2+1*t^3+2*t^4+3*t^5+1*t^6+2*t^7;"), 0);
        due("told", x.told(0), -1);
        Edges.row(x, true, 0, 1, 2, 3, 1, 2, 3, 1, 2);
    }
}
