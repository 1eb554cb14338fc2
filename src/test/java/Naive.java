import java.util.ArrayList;
import java.util.Arrays;
import java.util.List;

/**
 * One world, worked out as the document's words say it and by other ways than
 * the class goes: rows of figures, tries of all that there is, determinants.
 */
final class Naive {
    final int q;
    final int m;
    final int d;
    final int n;
    private final int[][] products;
    private final int[][] turns;

    Naive(int q, int m) {
        this.q = q;
        this.m = m;
        int[] figures = figures(m, q);
        this.d = figures.length - 1;
        int size = 1;
        for (int i = 0; i < d; i++) {
            size *= q;
        }
        this.n = size;
        products = new int[n][n];
        for (int a = 0; a < n; a++) {
            for (int b = 0; b < n; b++) {
                products[a][b] = number(divide(times(figures(a, q), figures(b, q), q), figures, q)[1], q);
            }
        }
        turns = new int[8][n];
        for (int a = 0; a < n; a++) {
            turns[0][a] = a;
            for (int i = 1; i < turns.length; i++) {
                int x = 1;
                for (int k = 0; k < q; k++) {
                    x = products[x][turns[i - 1][a]];
                }
                turns[i][a] = x;
            }
        }
    }

    // ---- polynomials as rows of figures, the constant first, without leading 0

    static int[] trim(int[] c) {
        int k = c.length;
        while (k > 0 && c[k - 1] == 0) {
            k--;
        }
        return Arrays.copyOf(c, k);
    }

    static int[] figures(long a, int q) {
        int[] c = new int[40];
        for (int i = 0; a > 0; i++) {
            c[i] = (int) (a % q);
            a /= q;
        }
        return trim(c);
    }

    static int number(int[] c, int q) {
        long a = 0;
        for (int i = c.length - 1; i >= 0; i--) {
            a = a * q + c[i];
        }
        if (a > Integer.MAX_VALUE) {
            throw new IllegalStateException("too great");
        }
        return (int) a;
    }

    static int[] plus(int[] a, int[] b, int s, int q) {
        int[] c = new int[Math.max(a.length, b.length)];
        for (int i = 0; i < c.length; i++) {
            int x = i < a.length ? a[i] : 0;
            int y = i < b.length ? b[i] : 0;
            c[i] = Math.floorMod(x + s * y, q);
        }
        return trim(c);
    }

    static int[] times(int[] a, int[] b, int q) {
        int[] c = new int[a.length + b.length + 1];
        for (int i = 0; i < a.length; i++) {
            for (int j = 0; j < b.length; j++) {
                c[i + j] = (c[i + j] + a[i] * b[j]) % q;
            }
        }
        return trim(c);
    }

    static int[][] divide(int[] a, int[] b, int q) {
        int[] left = trim(a);
        int[] whole = new int[Math.max(0, a.length - b.length) + 1];
        while (left.length >= b.length) {
            int f = 0;
            while ((f * b[b.length - 1] - left[left.length - 1]) % q != 0) {
                f++;
            }
            int[] part = new int[left.length - b.length + 1];
            part[part.length - 1] = f;
            whole[part.length - 1] = f;
            left = plus(left, times(part, b, q), -1, q);
        }
        return new int[][] {trim(whole), left};
    }

    static int[] monic(int[] a, int q) {
        if (a.length == 0) {
            return a;
        }
        for (int f = 1; f < q; f++) {
            int[] c = times(a, new int[] {f}, q);
            if (c[c.length - 1] == 1) {
                return c;
            }
        }
        throw new IllegalStateException();
    }

    static int[] common(int[] a, int[] b, int q) {
        return b.length == 0 ? monic(a, q) : common(b, divide(a, b, q)[1], q);
    }

    static boolean isMonic(int[] a) {
        return a.length > 0 && a[a.length - 1] == 1;
    }

    static List<Integer> factors(int a, int q) {
        List<Integer> found = new ArrayList<>();
        int[] left = monic(figures(a, q), q);
        long power = q;
        for (int degree = 1; 2 * degree < left.length; degree++) {
            for (long p = power; p < 2 * power && 2 * degree < left.length; p++) {
                int[] prime = figures(p, q);
                while (left.length > prime.length) {
                    int[][] by = divide(left, prime, q);
                    if (by[1].length > 0) {
                        break;
                    }
                    found.add((int) p);
                    left = by[0];
                }
            }
            power *= q;
        }
        if (left.length > 1) {
            found.add(number(left, q));
        }
        found.sort(null);
        return found;
    }

    static boolean isPrime(int a, int q) {
        if (a < q || !isMonic(figures(a, q))) {
            return false;
        }
        List<Integer> f = factors(a, q);
        return f.size() == 1;
    }

    static int symbol(int a, int b, int q) {
        int symbol = 1;
        for (int prime : factors(b, q)) {
            int[] p = figures(prime, q);
            int power = 0;
            for (int i = 0, x = 1; i < p.length - 1; i++, x *= q) {
                power += x;
            }
            int[] base = divide(figures(a, q), p, q)[1];
            int[] all = {1};
            for (int i = 0; i < power; i++) {
                all = divide(times(all, base, q), p, q)[1];
            }
            if (all.length > 1) {
                throw new IllegalStateException("a symbol is no figure");
            }
            symbol = symbol * (all.length == 0 ? 0 : all[0]) % q;
        }
        return symbol;
    }

    static int sums(int k, int d, int q) {
        int[] sum = {};
        int start = 1;
        for (int i = 0; i < d; i++) {
            start *= q;
        }
        for (int a = start; a < 2 * start; a++) {
            int[] power = {1};
            for (int i = 0; i < k; i++) {
                power = times(power, figures(a, q), q);
            }
            sum = plus(sum, power, 1, q);
        }
        return number(sum, q);
    }

    // ---- rests

    int sum(int a, int b) {
        return number(plus(figures(a, q), figures(b, q), 1, q), q);
    }

    int less(int a, int b) {
        return number(plus(figures(a, q), figures(b, q), -1, q), q);
    }

    int times(int a, int b) {
        return products[a][b];
    }

    int by(int a, int b) {
        for (int c = 0; c < n; c++) {
            if (products[c][b] == a) {
                return c;
            }
        }
        throw new IllegalStateException();
    }

    int turn(int a, int i) {
        return turns[i % d][a];
    }

    // ---- turned polynomials as rows of rests, without leading 0

    int[] plus(int[] a, int[] b, boolean less) {
        int[] c = new int[Math.max(a.length, b.length)];
        for (int i = 0; i < c.length; i++) {
            int x = i < a.length ? a[i] : 0;
            int y = i < b.length ? b[i] : 0;
            c[i] = less ? less(x, y) : sum(x, y);
        }
        return trim(c);
    }

    int[] times(int[] a, int[] b) {
        int[] c = new int[a.length + b.length + 1];
        for (int i = 0; i < a.length; i++) {
            for (int j = 0; j < b.length; j++) {
                c[i + j] = sum(c[i + j], times(a[i], turn(b[j], i)));
            }
        }
        return trim(c);
    }

    int value(int[] c, int x) {
        int sum = 0;
        for (int i = 0; i < c.length; i++) {
            sum = sum(sum, times(c[i], turn(x, i)));
        }
        return sum;
    }

    /** Of any degree. */
    int[] actsAs(int[] g, int poly) {
        int[] sum = {};
        int[] power = {1};
        for (int f : figures(poly, q)) {
            sum = plus(sum, times(new int[] {f}, power), false);
            power = times(power, g);
        }
        return sum;
    }

    int act(int[] g, int poly, int x) {
        int sum = 0;
        int power = x;
        for (int f : figures(poly, q)) {
            sum = sum(sum, times(f, power));
            power = value(g, power);
        }
        return sum;
    }

    /** The w with w b = a, or null. */
    int[] by(int[] a, int[] b) {
        int[] left = trim(a);
        int[] whole = new int[Math.max(1, a.length)];
        while (left.length >= b.length && left.length > 0) {
            int k = left.length - b.length;
            int[] part = new int[k + 1];
            part[k] = by(left[left.length - 1], turn(b[b.length - 1], k));
            whole[k] = part[k];
            left = plus(left, times(part, b), true);
        }
        return left.length > 0 ? null : trim(whole);
    }

    // ---- modules

    int characteristic(int g0) {
        for (int degree = 1, start = q; degree <= d; degree++, start *= q) {
            for (int a = start; a < 2 * start; a++) {
                int sum = 0;
                int power = 1;
                for (int f : figures(a, q)) {
                    sum = sum(sum, times(f, power));
                    power = times(power, g0);
                }
                if (sum == 0) {
                    return a;
                }
            }
        }
        throw new IllegalStateException();
    }

    int height(int[] g) {
        int c = characteristic(g[0]);
        int[] acts = actsAs(g, c);
        int least = 0;
        while (acts[least] == 0) {
            least++;
        }
        int degree = figures(c, q).length - 1;
        if (least % degree != 0) {
            throw new IllegalStateException("a height is no whole number");
        }
        return least / degree;
    }

    /** T less what G does, in figures: entries are rows of figures. */
    private int[][][] matrix(int[] g) {
        int[][][] entries = new int[d][d][];
        int unit = 1;
        for (int j = 0; j < d; j++, unit *= q) {
            int[] y = Arrays.copyOf(figures(value(g, unit), q), d);
            for (int i = 0; i < d; i++) {
                entries[i][j] = trim(new int[] {(q - y[i]) % q, i == j ? 1 : 0});
            }
        }
        return entries;
    }

    private int[] minor(int[][][] a, int rows, int columns) {
        if (rows == 0) {
            return new int[] {1};
        }
        int row = Integer.numberOfTrailingZeros(rows);
        int[] sum = {};
        int sign = 1;
        for (int j = 0; j < d; j++) {
            if ((columns >> j & 1) == 0) {
                continue;
            }
            if (a[row][j].length > 0) {
                int[] below = minor(a, rows & ~(1 << row), columns & ~(1 << j));
                sum = plus(sum, times(a[row][j], below, q), sign, q);
            }
            sign = -sign;
        }
        return sum;
    }

    int points(int[] g) {
        return number(minor(matrix(g), (1 << d) - 1, (1 << d) - 1), q);
    }

    /** By what the minors of each size have in common. */
    List<Integer> parts(int[] g) {
        int[][][] a = matrix(g);
        int[][] divisors = new int[d + 1][];
        for (int k = 0; k <= d; k++) {
            int[] all = {};
            for (int rows = 0; rows < 1 << d; rows++) {
                for (int columns = 0; columns < 1 << d; columns++) {
                    if (Integer.bitCount(rows) == k && Integer.bitCount(columns) == k && all.length != 1) {
                        all = common(all, minor(a, rows, columns), q);
                    }
                }
            }
            divisors[k] = all;
        }
        List<Integer> parts = new ArrayList<>();
        for (int k = d; k >= 1; k--) {
            int[] part = divide(divisors[k], divisors[k - 1], q)[0];
            if (part.length > 1) {
                parts.add(number(part, q));
            }
        }
        return parts;
    }

    int norm(int[] g) {
        int product = 1;
        for (int i = 0; i < d; i++) {
            product = times(product, turn(g[2], i));
        }
        int unit = by(1, product);
        if (d % 2 == 1) {
            unit = less(0, unit);
        }
        int[] c = figures(characteristic(g[0]), q);
        int[] b = {unit};
        for (int i = 0; i < d / (c.length - 1); i++) {
            b = times(b, c, q);
        }
        return number(b, q);
    }

    /** Tries all there are. */
    int trace(int[] g) {
        int[] great = new int[d + 1];
        great[d] = 1;
        int[] b = actsAs(g, norm(g));
        int found = -1;
        int tries = q;
        for (int i = 0; i < d / 2; i++) {
            tries *= q;
        }
        for (int a = 0; a < tries; a++) {
            int[] all = plus(times(great, great), times(actsAs(g, a), great), true);
            if (plus(all, b, false).length == 0) {
                if (found >= 0) {
                    throw new IllegalStateException("two traces");
                }
                found = a;
            }
        }
        return found;
    }

    // ---- maps

    int[] lead(int[] u, int[] g) {
        return by(times(u, g), u);
    }

    /** The number, or -1. */
    int dual(int[] u, int[] g) {
        if (lead(u, g) == null) {
            return -1;
        }
        for (int degree = 0, start = 1; degree <= 4; degree++, start *= q) {
            for (int a = start; a < 2 * start; a++) {
                int[] acts = actsAs(g, a);
                if (acts.length <= 25 && by(acts, u) != null) {
                    return a;
                }
            }
        }
        return -1;
    }

    /** The product of all x - s, for all s that the rest makes. */
    int[] make(int[] g, int rest) {
        boolean[] in = new boolean[n];
        in[0] = true;
        int x = rest;
        for (int k = 0; k <= d; k++) {
            for (boolean more = true; more;) {
                more = false;
                for (int s = 0; s < n; s++) {
                    if (in[s] && !in[sum(s, x)]) {
                        in[sum(s, x)] = true;
                        more = true;
                    }
                }
            }
            x = value(g, x);
        }
        int[] product = new int[n + 1];
        product[0] = 1;
        int degree = 0;
        for (int s = 0; s < n; s++) {
            if (in[s]) {
                degree++;
                for (int i = degree; i >= 0; i--) {
                    int below = i == 0 ? 0 : product[i - 1];
                    product[i] = less(below, times(s, product[i]));
                }
            }
        }
        int[] u = new int[d + 1];
        for (int i = 0, power = 1; i <= d; i++, power *= q) {
            u[i] = product[power];
            product[power] = 0;
        }
        for (int c : product) {
            if (c != 0) {
                throw new IllegalStateException("no turned polynomial");
            }
        }
        return trim(u);
    }

    int ends(int[] g, int e) {
        int all = 1;
        for (int i = 0; i <= e; i++) {
            all *= n;
        }
        int many = 0;
        for (int u = 0; u < all; u++) {
            int[] c = trim(new int[] {u % n, u / n % n, u / n / n});
            if (Arrays.equals(times(c, g), times(g, c))) {
                many++;
            }
        }
        return many;
    }

    int alike(int[] g, int[] h) {
        for (int c = 1; c < n; c++) {
            if (Arrays.equals(times(new int[] {c}, g), times(h, new int[] {c}))) {
                return c;
            }
        }
        return -1;
    }

    /** One module of each class. */
    List<int[]> classes(int g0, int rank) {
        int all = n;
        for (int i = 1; i < rank; i++) {
            all *= n;
        }
        boolean[] seen = new boolean[all];
        List<int[]> found = new ArrayList<>();
        for (int a = 0; a < all; a++) {
            int[] g = new int[rank + 1];
            g[0] = g0;
            for (int i = 1, x = a; i <= rank; i++, x /= n) {
                g[i] = x % n;
            }
            if (g[rank] == 0 || seen[a]) {
                continue;
            }
            found.add(g);
            for (int c = 1; c < n; c++) {
                int number = 0;
                for (int i = rank; i >= 1; i--) {
                    number = number * n + by1(times(c, g[i]), turn(c, i));
                }
                seen[number] = true;
            }
        }
        return found;
    }

    private int[] inverses;

    private int by1(int a, int b) {
        if (inverses == null) {
            inverses = new int[n];
            for (int c = 1; c < n; c++) {
                inverses[c] = by(1, c);
            }
        }
        return times(a, inverses[b]);
    }

    int greatest(int g0) {
        int many = 0;
        for (int[] g : classes(g0, 2)) {
            if (height(g) == 2) {
                many++;
            }
        }
        return many;
    }
}
