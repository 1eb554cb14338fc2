/** Each sentence on reckoning with rests and polynomials, on sums, symbols and factors, at the edges that it names. */
public final class NumbersEdgesTest {
    private static final int LEAST = Edges.LEAST;
    private static final int MOST = Edges.MOST;
    private static final int NONE = -1;

    public static void main(String[] args) {
        Edges.run(NumbersEdgesTest.class);
    }

    private static void due(String call, int got, int want) {
        Due.due(call, got, want);
    }

    // ---- promise 3

    @Says(at = "Promise 3", value = "RESTS: 0 a + b, 1 a - b, 2 a b, 3 a by b.")
    static void p03Work() {
        for (int[] world : new int[][] {{2, 2}, {2, 11}, {3, 3}, {3, 10}, {3, 34}, {5, 5}, {5, 27}}) {
            Edges.Fresh fresh = Edges.Fresh.at(world[0], world[1]);
            Naive w = new Naive(world[0], world[1]);
            for (int a = 0; a < w.n; a++) {
                for (int b = 0; b < w.n; b++) {
                    String name = world[0] + ", " + world[1] + ": " + a + " and " + b + ": ";
                    due(name + "sum", fresh.x().work(0, a, b), w.sum(a, b));
                    due(name + "difference", fresh.x().work(1, a, b), w.less(a, b));
                    due(name + "product", fresh.x().work(2, a, b), w.times(a, b));
                    due(name + "by", fresh.x().work(3, a, b), b == 0 ? NONE : w.by(a, b));
                }
            }
        }
        // the least and the greatest rests there are
        PowersForTimes x = Edges.at(2, 131);
        due("127 + 127", x.work(0, 127, 127), 0);
        due("127 - 0", x.work(1, 127, 0), 127);
        due("127 127", x.work(2, 127, 127), new Naive(2, 131).times(127, 127));
        due("127 by 127", x.work(3, 127, 127), 1);
        due("0 by 127", x.work(3, 0, 127), 0);
        due("127 by 1", x.work(3, 127, 1), 127);
        x = Edges.at(5, 131);
        due("124 + 124", x.work(0, 124, 124), 93);
        due("0 - 124", x.work(1, 0, 124), 31);
        due("124 by 124", x.work(3, 124, 124), 1);
        due("1 by 4", x.work(3, 1, 4), 4);
    }

    @Says(at = "Promise 3", value = "NONE for others (b 0 in 3).")
    static void p03WorkOfOthers() {
        PowersForTimes x = Edges.at(3, 10);
        for (int a = 0; a < 9; a++) {
            due(a + " by 0", x.work(3, a, 0), NONE);
            due(a + " + 0", x.work(0, a, 0), a);
            due(a + " - 0", x.work(1, a, 0), a);
            due(a + " 0", x.work(2, a, 0), 0);
        }
        due("how 3", x.work(3, 8, 8), 1);
        for (int how : new int[] {-1, -2, 4, 5, LEAST, MOST}) {
            due("how " + how, x.work(how, 1, 1), NONE);
            Edges.refused("work " + how, NONE, y -> y.work(how, 1, 1), Made.RICH);
        }
        for (int bad : new int[] {-1, -9, 9, 10, LEAST, MOST}) {
            for (int how = -1; how < 5; how++) {
                due("a " + bad, x.work(how, bad, 1), NONE);
                due("b " + bad, x.work(how, 1, bad), NONE);
            }
        }
        Edges.refused("8 by 0", NONE, y -> y.work(3, 8, 0), Made.RICH);
        Edges.refused("0 by 0", NONE, y -> y.work(3, 0, 0), Made.values());
    }

    // ---- promise 4

    @Says(at = "Promise 4", value = "POLYNOMIALS (0 .. q^13 - 1): 0 a + b, 1 a - b, 2 a b, 3 what a leaves by b, 4 a by b (without that),")
    static void p04Poly() {
        for (int q : Edges.BASES) {
            Edges.Fresh fresh = Edges.Fresh.at(q, q);
            int top = Edges.power(q, 12);
            int last = Edges.power(q, 13) - 1;
            int[] some = {0, 1, q - 1, q, q + 1, 2 * q - 1, q * q + 1, q * q * q - 1, top - 1, top, top + 1, last - 1, last, last - q, 8 * q + 3};
            for (int a : some) {
                for (int b : some) {
                    String name = q + ": " + a + " and " + b + ": ";
                    int[] f = Naive.figures(a, q);
                    int[] g = Naive.figures(b, q);
                    due(name + "sum", fresh.x().poly(0, a, b), Naive.number(Naive.plus(f, g, 1, q), q));
                    due(name + "difference", fresh.x().poly(1, a, b), Naive.number(Naive.plus(f, g, -1, q), q));
                    int[] product = Naive.times(f, g, q);
                    due(name + "product", fresh.x().poly(2, a, b), product.length > 13 ? NONE : Naive.number(product, q));
                    if (b > 0) {
                        due(name + "leaves", fresh.x().poly(3, a, b), Naive.number(Naive.divide(f, g, q)[1], q));
                        due(name + "by", fresh.x().poly(4, a, b), Naive.number(Naive.divide(f, g, q)[0], q));
                    }
                }
            }
            PowersForTimes x = Edges.at(q, q);
            due("T^12 by 1", x.poly(4, top, 1), top);
            due("T^12 by T^12", x.poly(4, top, top), 1);
            due("T^12 - 1 by T^12", x.poly(4, top - 1, top), 0);
            due("T^12 - 1 leaves", x.poly(3, top - 1, top), top - 1);
            due("by a figure nothing is left", x.poly(3, last, q - 1), 0);
        }
    }

    @Says(at = "Promise 4", value = "5 their greatest common divisor (MONIC; 0 of 0 and 0).")
    static void p04PolyCommon() {
        for (int q : Edges.BASES) {
            PowersForTimes x = Edges.at(q, q);
            int last = Edges.power(q, 13) - 1;
            due("0 and 0", x.poly(5, 0, 0), 0);
            for (int figure = 1; figure < q; figure++) {
                due("a figure and 0", x.poly(5, figure, 0), 1);
                due("0 and a figure", x.poly(5, 0, figure), 1);
                due("figures", x.poly(5, figure, q - 1), 1);
                due("a figure times T, and 0", x.poly(5, figure * q, 0), q);
                due("0, and a figure times T", x.poly(5, 0, figure * q), q);
                due("a figure times T^12, and itself", x.poly(5, figure * Edges.power(q, 12), figure * Edges.power(q, 12)), Edges.power(q, 12));
            }
            due("T^12 and T", x.poly(5, Edges.power(q, 12), q), q);
            due("T^12 and T + 1", x.poly(5, Edges.power(q, 12), q + 1), 1);
            int[] figures = Naive.figures(last, q);
            due("the last and itself", x.poly(5, last, last), Naive.number(Naive.monic(figures, q), q));
            Edges.Fresh fresh = Edges.Fresh.at(q, q);
            for (int a = 0; a < q * q * q; a += 1 + a % 3) {
                for (int b = 0; b < q * q * q; b++) {
                    int want = Naive.number(Naive.common(Naive.figures(a, q), Naive.figures(b, q), q), q);
                    due(q + ": common of " + a + " and " + b, fresh.x().poly(5, a, b), want);
                }
            }
        }
    }

    @Says(at = "Promise 4", value = "NONE for others (b 0 in 3, 4; DEGREE above 12).")
    static void p04PolyOfOthers() {
        for (int q : Edges.BASES) {
            PowersForTimes x = Edges.at(q, q);
            int over = Edges.power(q, 13);
            for (int a : new int[] {0, 1, q, over - 1}) {
                due(a + " leaves by 0", x.poly(3, a, 0), NONE);
                due(a + " by 0", x.poly(4, a, 0), NONE);
                due(a + " + 0", x.poly(0, a, 0), a);
                due(a + " - 0", x.poly(1, a, 0), a);
                due(a + " 0", x.poly(2, a, 0), 0);
                Due.holds("common of " + a + " and 0", x.poly(5, a, 0) >= 0);
            }
            for (int low = 0; low <= 12; low++) {
                int a = Edges.power(q, low);
                for (int high = 0; high <= 12; high++) {
                    int b = (q - 1) * Edges.power(q, high);
                    int want = low + high > 12 ? NONE : (q - 1) * Edges.power(q, low + high);
                    due(q + ": T^" + low + " by that of degree " + high, x.poly(2, a, b), want);
                    due(q + ": of degree " + high + " by T^" + low, x.poly(2, b, a), want);
                }
            }
            for (int bad : new int[] {-1, -q, over, over + 1, LEAST, MOST}) {
                for (int how = -1; how <= 6; how++) {
                    due("a " + bad, x.poly(how, bad, 1), NONE);
                    due("b " + bad, x.poly(how, 1, bad), NONE);
                }
            }
            for (int how : new int[] {-1, 6, 7, LEAST, MOST}) {
                due("how " + how, x.poly(how, 1, 1), NONE);
            }
        }
        Edges.refused("leaves by 0", NONE, y -> y.poly(3, 5, 0), Made.NEW, Made.RICH);
        Edges.refused("by 0", NONE, y -> y.poly(4, 5, 0), Made.NEW, Made.RICH);
        Edges.refused("T^6 T^7", NONE, y -> y.poly(2, 729, 2187), Made.RICH);
        Edges.refused("how -1", NONE, y -> y.poly(-1, 1, 1), Made.RICH);
        Edges.refused("how 6", NONE, y -> y.poly(6, 1, 1), Made.RICH);
    }

    // ---- sums

    @Says(at = "IV", value = "SUMS for k (1 .. 12) and D (1 .. 4): of all MONIC POLYNOMIALS of DEGREE D, to the power of k, together (D k 12 at most).")
    static void ivSums() {
        for (int q : Edges.BASES) {
            PowersForTimes x = Edges.at(q, q);
            for (int k = -2; k <= 26; k++) {
                for (int d = -2; d <= 14; d++) {
                    boolean is = k >= 1 && k <= 12 && d >= 1 && d <= 4 && d * k <= 12;
                    due(q + ": sums(" + k + ", " + d + ")", x.sums(k, d), is ? Naive.sums(k, d, q) : NONE);
                }
            }
        }
        PowersForTimes x = new PowersForTimes();
        // T^12 + (T + 1)^12: (T + 1)^12 is (T^4 + 1)^3
        due("k 12, D 1", x.sums(12, 1), 273);
        // all are of degree 4 and there are 16: their cubes
        due("k 3, D 4", x.sums(3, 4), 0);
        x = Edges.at(3, 3);
        due("k 2: T^2 + (T + 1)^2 + (T + 2)^2", x.sums(2, 1), 2);
        due("k 8, D 1", x.sums(8, 1), Naive.sums(8, 1, 3));
    }

    @Says(at = "Promise 27", value = "SUMS.")
    static void p27Sums() {
        PowersForTimes x = new PowersForTimes();
        due("T + T + 1", x.sums(1, 1), 1);
        // (T^2 + T + 1), as T^3 + (T + 1)^3 = T^2 + T + 1 over 2
        due("T^3 + (T + 1)^3", x.sums(3, 1), 7);
        // the world's q counts, not its M
        due("world", x.world(2, 131), 128);
        due("T^3 + (T + 1)^3", x.sums(3, 1), 7);
        due("world", x.world(3, 86), 81);
        due("over 3", x.sums(2, 1), 2);
        due("world", x.world(5, 27), 25);
        // sum of (T + c)^4: 4 c^4 add up to 4 4 = 1 over 5
        due("over 5", x.sums(4, 1), 4);
    }

    @Says(at = "Promise 27", value = "NONE for others.")
    static void p27SumsOfOthers() {
        int[][] inside = {{1, 1}, {12, 1}, {1, 4}, {3, 4}, {6, 2}, {4, 3}};
        int[][] others = {{0, 1}, {13, 1}, {1, 0}, {1, 5}, {4, 4}, {7, 2}, {5, 3}, {12, 2}, {0, 0}, {-1, 1}, {1, -1}, {-1, -1}, {-2, -2},
            {12, 0}, {0, 4}, {LEAST, 1}, {1, LEAST}, {MOST, 1}, {1, MOST}, {MOST, MOST}, {LEAST, LEAST}, {65536, 65536}, {LEAST, 2},
            {2, LEAST}, {1 << 30, 4}, {12, 1 << 30}};
        for (int q : Edges.BASES) {
            PowersForTimes x = Edges.at(q, q);
            for (int[] in : inside) {
                Due.holds(q + ": sums(" + in[0] + ", " + in[1] + ")", x.sums(in[0], in[1]) >= 0);
            }
            for (int[] out : others) {
                due(q + ": sums(" + out[0] + ", " + out[1] + ")", x.sums(out[0], out[1]), NONE);
            }
        }
        for (int[] out : others) {
            Edges.refused("sums(" + out[0] + ", " + out[1] + ")", NONE, y -> y.sums(out[0], out[1]), Made.RICH);
        }
    }

    // ---- symbols

    @Says(at = "IV", value = "SYMBOL of a over a MONIC b of DEGREE 1 .. 6:")
    static void ivSymbolDegrees() {
        for (int q : Edges.BASES) {
            PowersForTimes x = Edges.at(q, q);
            for (int degree = 0; degree <= 12; degree++) {
                for (int first = 1; first < q; first++) {
                    boolean is = first == 1 && degree >= 1 && degree <= 6;
                    int start = first * Edges.power(q, degree);
                    for (int b : new int[] {start, start + Edges.power(q, degree) - 1}) {
                        due(q + ": symbol of 1 over " + b, x.symbol(1, b), is ? 1 : NONE);
                        due(q + ": symbol of 0 over " + b, x.symbol(0, b), is ? 0 : NONE);
                    }
                }
            }
        }
    }

    @Says(at = "IV", value = "of a PRIME b: a to the power of (q^DEGREE - 1) / (q - 1), mod b (a figure; 0 if b divides a);")
    static void ivSymbolOfPrimes() {
        for (int q : Edges.BASES) {
            PowersForTimes x = Edges.at(q, q);
            int last = Edges.power(q, 13) - 1;
            for (int degree = 1; degree <= 6; degree++) {
                int start = Edges.power(q, degree);
                int seen = 0;
                for (int b = start; b < 2 * start && seen < 5; b++) {
                    if (x.factors(b, -1) != 1) {
                        continue;
                    }
                    seen++;
                    due(b + " divides 0", x.symbol(0, b), 0);
                    due(b + " divides itself", x.symbol(b, b), 0);
                    due(b + " divides T times itself", x.symbol(b * q, b), 0);
                    for (int a : new int[] {1, q - 1, q, q + 1, start - 1, start + 1, b + 1, b + q - 1, last - 1, last}) {
                        due(q + ": symbol of " + a + " over " + b, x.symbol(a, b), Naive.symbol(a, b, q));
                    }
                }
                Due.holds("primes of degree " + degree, seen > 0);
            }
        }
        PowersForTimes x = Edges.at(3, 3);
        due("2 over T", x.symbol(2, 3), 2);
        due("2 over T^2 + 1: 2^4", x.symbol(2, 10), 1);
        due("T over T^2 + 1: T^4", x.symbol(3, 10), 1);
        due("T + 1 over T^2 + 1", x.symbol(4, 10), 2);
        x = Edges.at(5, 5);
        for (int figure = 0; figure < 5; figure++) {
            due("T + figure over T", x.symbol(5 + figure, 5), figure);
        }
    }

    @Says(at = "IV", value = "else of its PRIME factors (as often as they are) times one another, mod q.")
    static void ivSymbolOfProducts() {
        PowersForTimes x = Edges.at(3, 3);
        due("2 over T^2", x.symbol(2, 9), 1);
        due("2 over T^3", x.symbol(2, 27), 2);
        due("2 over T^6", x.symbol(2, 729), 1);
        due("2 over T (T + 1)", x.symbol(2, 12), 1);
        due("2 over T (T + 1) (T + 2)", x.symbol(2, 33), 2);
        due("T over T (T^2 + 1)", x.symbol(3, 30), 0);
        due("T + 1 over T (T^2 + 1)", x.symbol(4, 30), 2);
        for (int q : Edges.BASES) {
            x = Edges.at(q, q);
            int[] tops = {q * q, Edges.power(q, 3), Edges.power(q, 4), Edges.power(q, 5), Edges.power(q, 6)};
            for (int top : tops) {
                for (int b : new int[] {top, top + 1, top + q, top + q + 1, top + top / q, 2 * top - 1}) {
                    for (int a : new int[] {2 % q, q, q + 1, 2 * q + 1, q * q + 2 % q, 1000}) {
                        due(q + ": symbol of " + a + " over " + b, x.symbol(a, b), Naive.symbol(a, b, q));
                    }
                }
            }
        }
    }

    @Says(at = "Promise 28", value = "SYMBOL.")
    static void p28Symbol() {
        PowersForTimes x = Edges.at(5, 131);
        due("4 over T: of degree 1", x.symbol(4, 5), 4);
        due("4 over T^6: of degree 6", x.symbol(4, 15625), 1);
        due("of the last polynomial", x.symbol(1220703124, 5), 4);
        due("of 0", x.symbol(0, 5), 0);
    }

    @Says(at = "Promise 28", value = "NONE for others.")
    static void p28SymbolOfOthers() {
        for (int q : Edges.BASES) {
            PowersForTimes x = Edges.at(q, q);
            int over = Edges.power(q, 13);
            due("over 1", x.symbol(1, 1), NONE);
            due("over 0", x.symbol(1, 0), NONE);
            due("over T", x.symbol(1, q), 1);
            due("over T^6", x.symbol(1, Edges.power(q, 6)), 1);
            due("over T^7", x.symbol(1, Edges.power(q, 7)), NONE);
            for (int b = 2; b < q; b++) {
                due("over a figure", x.symbol(1, b), NONE);
                due("over a figure times T", x.symbol(1, b * q), NONE);
            }
            for (int bad : new int[] {-1, -q, over, LEAST, MOST}) {
                due("of " + bad, x.symbol(bad, q), NONE);
                due("over " + bad, x.symbol(1, bad), NONE);
            }
            due("of the last", x.symbol(over - 1, q), q - 1);
        }
        for (int bad : new int[] {0, 1, 2, 6, 2187, 1594323, -1, LEAST, MOST}) {
            Edges.refused("over " + bad, NONE, y -> y.symbol(4, bad), Made.RICH);
        }
        for (int bad : new int[] {1594323, -1, LEAST, MOST}) {
            Edges.refused("of " + bad, NONE, y -> y.symbol(bad, 3), Made.RICH);
        }
    }

    // ---- factors

    @Says(at = "IV", value = "FACTORS of a POLYNOMIAL (not 0): its PRIME factors by number, each as often as it is one.")
    static void ivFactors() {
        for (int q : Edges.BASES) {
            Edges.Fresh fresh = Edges.Fresh.at(q, q);
            for (int a = 1; a < 400; a++) {
                java.util.List<Integer> want = Naive.factors(a, q);
                due(q + ": factors of " + a, fresh.x().factors(a, -1), want.size());
                for (int i = 0; i <= want.size(); i++) {
                    due(q + ": factor " + i + " of " + a, fresh.x().factors(a, i), i < want.size() ? want.get(i) : NONE);
                }
            }
            PowersForTimes x = Edges.at(q, q);
            for (int figure = 1; figure < q; figure++) {
                due("a figure has none", x.factors(figure, -1), 0);
                due("T^12 and a figure", x.factors(figure * Edges.power(q, 12), -1), 12);
                for (int i = 0; i <= 12; i++) {
                    due("T^12 and a figure", x.factors(figure * Edges.power(q, 12), i), i < 12 ? q : NONE);
                }
            }
        }
        PowersForTimes x = new PowersForTimes();
        // (T + 1)^3 T^2 (T^2 + T + 1)^2: 2 2 3 3 3 7 7
        int a = x.poly(2, x.poly(2, x.poly(2, 5, 3), 4), x.poly(2, 7, 7));
        int[] want = {2, 2, 3, 3, 3, 7, 7};
        due("factors", x.factors(a, -1), 7);
        for (int i = 0; i < 7; i++) {
            due("factor " + i, x.factors(a, i), want[i]);
        }
        x = Edges.at(5, 5);
        // by number: T^2 + 2 (27) ahead of T^2 + 3 (28), behind T + 4 (9)
        a = x.poly(2, x.poly(2, 28, 27), x.poly(2, 9, 3));
        int[] more = {9, 27, 28};
        due("factors", x.factors(a, -1), 3);
        for (int i = 0; i < 3; i++) {
            due("factor " + i, x.factors(a, i), more[i]);
        }
        // a prime of the greatest degree
        due("a prime", x.factors(244140634, 0), 244140634);
        due("twice it", x.factors(x.poly(2, 2, 244140634), 0), 244140634);
        due("no more", x.factors(244140634, 1), NONE);
    }

    @Says(at = "Promise 29", value = "FACTORS: how many (i NONE), the i-th (from 0).")
    static void p29Factors() {
        PowersForTimes x = new PowersForTimes();
        // T (T + 1)
        due("how many", x.factors(6, -1), 2);
        due("0th", x.factors(6, 0), 2);
        due("1st", x.factors(6, 1), 3);
        due("2nd", x.factors(6, 2), NONE);
        due("T^12: how many", x.factors(4096, -1), 12);
        due("T^12: 11th", x.factors(4096, 11), 2);
        due("T^12: 12th", x.factors(4096, 12), NONE);
    }

    @Says(at = "Promise 29", value = "NONE if there is none such, and for others.")
    static void p29FactorsOfOthers() {
        for (int q : Edges.BASES) {
            PowersForTimes x = Edges.at(q, q);
            int over = Edges.power(q, 13);
            due("of 0", x.factors(0, -1), NONE);
            due("of 0", x.factors(0, 0), NONE);
            due("of 1", x.factors(1, -1), 0);
            due("of 1", x.factors(1, 0), NONE);
            due("of T", x.factors(q, -1), 1);
            due("of T", x.factors(q, 0), q);
            due("of T", x.factors(q, 1), NONE);
            for (int bad : new int[] {-2, -3, LEAST}) {
                due("i " + bad, x.factors(q, bad), NONE);
            }
            due("i most", x.factors(q, MOST), NONE);
            for (int bad : new int[] {-1, -q, over, over + 1, LEAST, MOST}) {
                due("of " + bad, x.factors(bad, -1), NONE);
                due("of " + bad, x.factors(bad, 0), NONE);
            }
            Due.holds("of the last", x.factors(over - 1, -1) >= 1);
        }
        for (int[] bad : new int[][] {{0, -1}, {0, 0}, {6, -2}, {6, 9}, {1594323, -1}, {-1, 0}, {LEAST, 0}, {6, LEAST}, {6, MOST}}) {
            Edges.refused("factors(" + bad[0] + ", " + bad[1] + ")", NONE, y -> y.factors(bad[0], bad[1]), Made.RICH);
        }
    }
}
