/**
 * Worlds of rests in which polynomials act by sums of powers; ../shared/DOC.md
 * promises what each call answers.
 *
 * All rows are made once, with the object: no call makes any, since all calls
 * of one run share one small room.
 */
public final class PowersForTimes {
    public static final int NONE = -1;

    private static final int OTHERS = -2;
    private static final int MOST_BYTES = 300;
    private static final int MOST_TEXTS = 4;
    private static final int MOST_ACTING = 24;

    private final Figures figures = new Figures();
    private final Rests rests = new Rests(figures);
    private final Primes primes = new Primes(figures);
    private final Turned turned = new Turned(rests);
    private final Acting acting = new Acting(turned, primes);
    private final Maps maps = new Maps(acting);
    private final Reader reader = new Reader(turned);
    private final State now = new State();
    private final State kept = new State();
    private final int[][] texts = new int[MOST_TEXTS][MOST_BYTES];
    private final int[] textLengths = new int[MOST_TEXTS];
    private final int[] tape = new int[MOST_BYTES];
    private final int[] row = new int[Turned.ROW];
    private int tapeLength = 0;
    private int latestFault = NONE;
    private int latestPlace = NONE;

    public PowersForTimes() {
        now.start(2, 2);
        kept.copyOf(now);
        rests.setModulus(2);
    }

    public int world(int q, int m) {
        if (q != 2 && q != 3 && q != 5) {
            return NONE;
        }
        int before = figures.base();
        figures.setBase(q);
        if (!isModulus(m)) {
            figures.setBase(before);
            return NONE;
        }
        now.start(q, m);
        rests.setModulus(m);
        return rests.size();
    }

    public int work(int how, int a, int b) {
        if (!rests.holds(a) || !rests.holds(b)) {
            return NONE;
        }
        switch (how) {
            case 0:
                return figures.sum(a, b);
            case 1:
                return figures.difference(a, b);
            case 2:
                return rests.product(a, b);
            case 3:
                return b == 0 ? NONE : rests.quotient(a, b);
            default:
                return NONE;
        }
    }

    public int poly(int how, int a, int b) {
        if (!figures.holds(a) || !figures.holds(b)) {
            return NONE;
        }
        switch (how) {
            case 0:
                return figures.sum(a, b);
            case 1:
                return figures.difference(a, b);
            case 2:
                return figures.fits(a, b) ? figures.product(a, b) : NONE;
            case 3:
                return b == 0 ? NONE : figures.rest(a, b);
            case 4:
                return b == 0 ? NONE : figures.quotient(a, b);
            case 5:
                return figures.common(a, b);
            default:
                return NONE;
        }
    }

    public int module(int g0, int g1, int g2, int g3) {
        if (!rests.holds(g0) || !rests.holds(g1) || !rests.holds(g2) || !rests.holds(g3)) {
            return NONE;
        }
        putRow(g0, g1, g2, g3);
        return now.tell(State.MODULE, row);
    }

    public int map(int c0, int c1, int c2) {
        if (!rests.holds(c0) || !rests.holds(c1) || !rests.holds(c2)) {
            return NONE;
        }
        putRow(c0, c1, c2, 0);
        return now.tell(State.MAP, row);
    }

    public int feed(int a, int b, int c, int d, int e) {
        if (tapeLength > MOST_BYTES - 20) {
            return NONE;
        }
        feedFour(a);
        feedFour(b);
        feedFour(c);
        feedFour(d);
        feedFour(e);
        return tapeLength;
    }

    public int end(int n) {
        if (n < 0 || n > tapeLength) {
            return NONE;
        }
        tapeLength = n;
        return n;
    }

    public int text() {
        int number = now.texts();
        if (number < 0 || number >= MOST_TEXTS) {
            return NONE;
        }
        latestFault = reader.check(tape, tapeLength);
        latestPlace = reader.faultPlace();
        if (latestFault == Reader.NO_FAULT) {
            System.arraycopy(tape, 0, texts[number], 0, tapeLength);
            textLengths[number] = tapeLength;
            now.addText();
        } else {
            number = NONE;
        }
        tapeLength = 0;
        return number;
    }

    public int fault(int what) {
        switch (what) {
            case 0:
                return latestFault;
            case 1:
                return latestPlace;
            default:
                return NONE;
        }
    }

    public int told(int text) {
        if (text < 0 || text >= now.texts() || text >= MOST_TEXTS) {
            return OTHERS;
        }
        reader.start(texts[text], textLengths[text], true);
        for (int clause = 0; clause < Reader.MOST_CLAUSES; clause++) {
            int kind = reader.readClause();
            if (kind == Reader.NO_CLAUSE) {
                return NONE;
            }
            int what = kind == Reader.MAP_CLAUSE ? State.MAP : State.MODULE;
            if (reader.cannot() || now.tell(what, reader.result()) == NONE) {
                return clause;
            }
        }
        return NONE;
    }

    public int of(boolean map, int which, int what) {
        int kind = map ? State.MAP : State.MODULE;
        if (!now.has(kind, which) || what < NONE) {
            return NONE;
        }
        int[] c = now.get(kind, which);
        if (what == NONE) {
            return Turned.degreeOf(c);
        }
        return what < c.length ? c[what] : 0;
    }

    public int act(int module, int poly, int rest) {
        if (!isActing(module, poly) || !rests.holds(rest)) {
            return NONE;
        }
        return acting.sendBy(now.get(State.MODULE, module), poly, rest);
    }

    public int acts(int module, int poly, int i) {
        if (!isActing(module, poly) || i < 0 || i > MOST_ACTING) {
            return NONE;
        }
        if (!acting.turn(now.get(State.MODULE, module), poly, row)) {
            return NONE;
        }
        return row[i];
    }

    public int send(int map, int rest) {
        if (!now.has(State.MAP, map) || !rests.holds(rest)) {
            return NONE;
        }
        return turned.valueAt(now.get(State.MAP, map), rest);
    }

    public int noughts(int module, int poly, int i) {
        if (!isActing(module, poly) || i < NONE) {
            return NONE;
        }
        int[] g = now.get(State.MODULE, module);
        int many = 0;
        for (int x = 0; x < rests.size(); x++) {
            if (acting.sendBy(g, poly, x) == 0) {
                if (many == i) {
                    return x;
                }
                many++;
            }
        }
        return i == NONE ? many : NONE;
    }

    public int about(int module, int what) {
        if (!now.has(State.MODULE, module)) {
            return NONE;
        }
        int[] g = now.get(State.MODULE, module);
        switch (what) {
            case 0:
                return acting.characteristic(g[0]);
            case 1:
                return acting.height(g, acting.characteristic(g[0]));
            case 2:
                return acting.points(g);
            default:
                return NONE;
        }
    }

    public int parts(int module, int i) {
        if (!now.has(State.MODULE, module) || i < NONE) {
            return NONE;
        }
        int many = acting.findParts(now.get(State.MODULE, module));
        if (i == NONE) {
            return many;
        }
        return i < many ? acting.part(i) : NONE;
    }

    public int great(int module, int what) {
        if (!now.has(State.MODULE, module)) {
            return NONE;
        }
        int[] g = now.get(State.MODULE, module);
        if (Turned.degreeOf(g) != 2) {
            return NONE;
        }
        switch (what) {
            case 0:
                return acting.greatTrace(g);
            case 1:
                return acting.greatNorm(g);
            default:
                return NONE;
        }
    }

    public int leads(int map, int module, int i) {
        if (!areMapAndModule(map, module) || i < 0 || i > 3) {
            return NONE;
        }
        if (!maps.lead(now.get(State.MAP, map), now.get(State.MODULE, module), row)) {
            return NONE;
        }
        return row[i];
    }

    public int dual(int map, int module, int i) {
        if (!areMapAndModule(map, module) || i < NONE || i > MOST_ACTING) {
            return NONE;
        }
        int[] u = now.get(State.MAP, map);
        int[] g = now.get(State.MODULE, module);
        int a = maps.lead(u, g, row) ? maps.dualNumber(u, g) : NONE;
        if (a == NONE || i == NONE) {
            return a;
        }
        return maps.dualRow(u, g, a, row) ? row[i] : NONE;
    }

    public int made(int module, int rest) {
        if (!now.has(State.MODULE, module) || !rests.holds(rest)) {
            return NONE;
        }
        maps.make(now.get(State.MODULE, module), rest, row);
        return now.tell(State.MAP, row);
    }

    public int ends(int module, int e) {
        if (!now.has(State.MODULE, module) || e < 0 || e > 2) {
            return NONE;
        }
        return maps.countEnds(now.get(State.MODULE, module), e);
    }

    public int alike(int one, int other) {
        if (!now.has(State.MODULE, one) || !now.has(State.MODULE, other)) {
            return NONE;
        }
        return maps.leastAlike(now.get(State.MODULE, one), now.get(State.MODULE, other));
    }

    public int classes(int g0, int rank) {
        if (!rests.holds(g0) || rank < 1 || rank > 3) {
            return NONE;
        }
        return maps.countClasses(rank);
    }

    public int greatest(int g0) {
        return rests.holds(g0) ? maps.countGreatest(g0) : NONE;
    }

    public int sums(int k, int d) {
        if (k < 1 || k > 12 || d < 1 || d > 4 || d * k > 12) {
            return NONE;
        }
        return figures.sumOfPowers(k, d);
    }

    public int symbol(int a, int b) {
        if (!figures.holds(a) || !figures.holds(b) || !figures.isMonic(b)) {
            return NONE;
        }
        int degree = figures.degree(b);
        return degree < 1 || degree > 6 ? NONE : figures.symbolOver(a, b);
    }

    public int factors(int a, int i) {
        if (!figures.holds(a) || a == 0 || i < NONE) {
            return NONE;
        }
        primes.find(a);
        if (i == NONE) {
            return primes.many();
        }
        return i < primes.many() ? primes.get(i) : NONE;
    }

    public int undo() {
        return now.undoLatest();
    }

    public int redo() {
        return now.redoLatest();
    }

    public int image() {
        kept.copyOf(now);
        return now.steps();
    }

    public int back() {
        now.copyOf(kept);
        figures.setBase(now.base());
        rests.setModulus(now.modulus());
        return now.steps();
    }

    public int count(int what) {
        switch (what) {
            case 0:
                return figures.base();
            case 1:
                return rests.modulus();
            case 2:
                return rests.degree();
            case 3:
                return rests.size();
            case 4:
                return now.many(State.MODULE);
            case 5:
                return now.many(State.MAP);
            case 6:
                return now.texts();
            case 7:
                return now.steps();
            case 8:
                return now.undone();
            case 9:
                return tapeLength;
            default:
                return OTHERS;
        }
    }

    private boolean isModulus(int m) {
        if (!figures.holds(m)) {
            return false;
        }
        int degree = figures.degree(m);
        if (degree < 1 || figures.power(degree) > Rests.MOST || !figures.isMonic(m)) {
            return false;
        }
        primes.find(m);
        return primes.many() == 1;
    }

    private boolean isActing(int module, int poly) {
        return now.has(State.MODULE, module) && figures.holds(poly);
    }

    private boolean areMapAndModule(int map, int module) {
        return now.has(State.MAP, map) && now.has(State.MODULE, module);
    }

    private void putRow(int c0, int c1, int c2, int c3) {
        Turned.clear(row);
        row[0] = c0;
        row[1] = c1;
        row[2] = c2;
        row[3] = c3;
    }

    private void feedFour(int four) {
        for (int shift = 24; shift >= 0 && tapeLength < tape.length; shift -= 8) {
            tape[tapeLength] = four >>> shift & 255;
            tapeLength++;
        }
    }

    /** Polynomials over 0 .. q - 1, told by numbers to the base q. */
    private static final class Figures {
        static final int MOST = 13;

        private int base = 2;
        private final int[] powers = new int[MOST + 1];

        Figures() {
            setBase(2);
        }

        void setBase(int q) {
            if (q < 2 || q > 5) {
                return;
            }
            base = q;
            int power = 1;
            for (int i = 0; i < powers.length; i++) {
                powers[i] = power;
                power *= q;
            }
        }

        int base() {
            return base;
        }

        /** q to the power of k; 0 for a power that has no place here. */
        int power(int k) {
            return k < 0 || k >= powers.length ? 0 : powers[k];
        }

        boolean holds(int a) {
            return a >= 0 && a < powers[MOST];
        }

        /** Below 0 for 0, so that it is less than that of any other. */
        int degree(int a) {
            int k = -1;
            while (k + 1 < MOST && a >= powers[k + 1]) {
                k++;
            }
            return k;
        }

        int figure(int a, int k) {
            if (k < 0 || k >= powers.length || powers[k] < 1 || base < 2) {
                return 0;
            }
            return a / powers[k] % base;
        }

        int first(int a) {
            return figure(a, degree(a));
        }

        boolean isMonic(int a) {
            return first(a) == 1;
        }

        int inverse(int figure) {
            for (int i = 1; i < base; i++) {
                if (figure * i % base == 1) {
                    return i;
                }
            }
            return 0;
        }

        int negative(int figure) {
            return (base - figure) % base;
        }

        /** a and s times b together, s a figure. */
        int mix(int a, int b, int s) {
            if (base == 2) {
                return s == 0 ? a : a ^ b;
            }
            int sum = 0;
            for (int i = 0; i < MOST && (a > 0 || b > 0); i++) {
                sum += (a % base + s * (b % base)) % base * powers[i];
                a /= base;
                b /= base;
            }
            return sum;
        }

        int sum(int a, int b) {
            return mix(a, b, 1);
        }

        int difference(int a, int b) {
            return mix(a, b, base - 1);
        }

        int monic(int a) {
            return mix(0, a, inverse(figure(a, degree(a))));
        }

        boolean fits(int a, int b) {
            return degree(a) + degree(b) < MOST;
        }

        /** Only for what fits. */
        int product(int a, int b) {
            int sum = 0;
            for (int k = degree(a); k >= 0; k--) {
                sum = mix(sum * base, b, figure(a, k));
            }
            return sum;
        }

        /** What a leaves by b. */
        int rest(int a, int b) {
            int low = degree(b);
            int turn = inverse(figure(b, low));
            for (int k = degree(a); k >= low && low >= 0; k--) {
                int figure = figure(a, k) * turn % base;
                a = mix(a, b * power(k - low), negative(figure));
            }
            return a;
        }

        int quotient(int a, int b) {
            int low = degree(b);
            int turn = inverse(figure(b, low));
            int whole = 0;
            for (int k = degree(a); k >= low && low >= 0; k--) {
                int figure = figure(a, k) * turn % base;
                a = mix(a, b * power(k - low), negative(figure));
                whole += figure * power(k - low);
            }
            return whole;
        }

        int common(int a, int b) {
            for (int i = 0; i < 2 * MOST && b != 0; i++) {
                int left = rest(a, b);
                a = b;
                b = left;
            }
            return monic(a);
        }

        /** a times b, by a monic m: for a and b that are of lesser degree than m. */
        int productBy(int a, int b, int m) {
            int top = degree(m);
            int sum = 0;
            for (int k = degree(a); k >= 0; k--) {
                sum *= base;
                sum = mix(sum, m, negative(figure(sum, top)));
                sum = mix(sum, b, figure(a, k));
            }
            return sum;
        }

        /** a to the power of q, by m. */
        int turnedBy(int a, int m) {
            int power = a;
            for (int i = 1; i < base; i++) {
                power = productBy(power, a, m);
            }
            return power;
        }

        int sumOfPowers(int k, int d) {
            int sum = 0;
            int start = power(d);
            for (int a = start; a < 2 * start; a++) {
                int power = a;
                for (int i = 1; i < k; i++) {
                    power = product(power, a);
                }
                sum = sum(sum, power);
            }
            return sum;
        }

        /**
         * The symbol over a prime is the product of what a is at its roots, so
         * over any monic b it is the product at all of b's roots: their
         * resultant, which needs no factors.
         */
        int symbolOver(int a, int b) {
            int symbol = 1;
            for (int i = 0; i <= MOST && degree(b) > 0; i++) {
                a = rest(a, b);
                if (a == 0) {
                    return 0;
                }
                int roots = degree(b);
                int first = first(a);
                if (roots % 2 == 1 && degree(a) % 2 == 1) {
                    symbol = negative(symbol);
                }
                for (int k = 0; k < roots; k++) {
                    symbol = symbol * first % base;
                }
                int next = monic(a);
                a = b;
                b = next;
            }
            return symbol;
        }
    }

    /** The prime factors of a polynomial, by number. */
    private static final class Primes {
        private final Figures figures;
        private final int[] found = new int[Figures.MOST];
        private final int[] split = new int[Figures.MOST];
        private int many = 0;
        private int splits = 0;

        Primes(Figures figures) {
            this.figures = figures;
        }

        int many() {
            return many;
        }

        int get(int i) {
            return i < 0 || i >= many || i >= found.length ? 0 : found[i];
        }

        /**
         * x to the power of q^k, less x, has each prime of a degree that
         * divides k once: with those of lesser degrees gone, what it has in
         * common with the number are the primes of degree k.
         */
        void find(int a) {
            many = 0;
            int left = figures.monic(a);
            int x = figures.base();
            int turn = x;
            for (int k = 1; 2 * k <= figures.degree(left); k++) {
                turn = figures.turnedBy(figures.rest(turn, left), left);
                int common = figures.common(left, figures.difference(turn, x));
                splitUp(common, k);
                for (int i = 0; i < splits; i++) {
                    left = takeOut(left, split[i]);
                }
            }
            if (figures.degree(left) > 0) {
                add(left);
            }
            sort();
        }

        private int takeOut(int left, int prime) {
            for (int i = 0; i < Figures.MOST && figures.rest(left, prime) == 0; i++) {
                add(prime);
                left = figures.quotient(left, prime);
            }
            return left;
        }

        private void add(int prime) {
            if (many < found.length) {
                found[many] = prime;
                many++;
            }
        }

        /**
         * Splits a product of primes of degree k that are not the same. By
         * each of them a trace is a figure, and of any two of them the trace
         * of some power of x is not the same figure: so these traces tell
         * them all apart.
         */
        private void splitUp(int product, int k) {
            int degree = figures.degree(product);
            splits = 0;
            if (degree < k) {
                return;
            }
            split[0] = product;
            splits = 1;
            int power = 1;
            for (int i = 1; i < degree && splits * k < degree; i++) {
                power = figures.rest(power * figures.base(), product);
                int trace = trace(power, k, product);
                for (int figure = 0; figure < figures.base(); figure++) {
                    splitBy(figures.difference(trace, figure));
                }
            }
        }

        private int trace(int a, int k, int product) {
            int sum = a;
            int turn = a;
            for (int i = 1; i < k; i++) {
                turn = figures.turnedBy(turn, product);
                sum = figures.sum(sum, turn);
            }
            return sum;
        }

        private void splitBy(int by) {
            int before = splits;
            for (int i = 0; i < before && splits < split.length; i++) {
                int common = figures.common(split[i], by);
                int degree = figures.degree(common);
                if (degree > 0 && degree < figures.degree(split[i])) {
                    split[splits] = figures.quotient(split[i], common);
                    splits++;
                    split[i] = common;
                }
            }
        }

        private void sort() {
            for (int i = 1; i < many && i < found.length; i++) {
                for (int k = i; k > 0 && found[k - 1] > found[k]; k--) {
                    int other = found[k];
                    found[k] = found[k - 1];
                    found[k - 1] = other;
                }
            }
        }
    }

    /** Rests by a prime; products go by the powers of one rest that makes all but 0. */
    private static final class Rests {
        static final int MOST = 128;

        final Figures figures;
        private int modulus = 2;
        private int degree = 1;
        private int size = 2;
        private final int[] powers = new int[MOST];
        private final int[] places = new int[MOST];
        private final int[] turns = new int[Figures.MOST];

        Rests(Figures figures) {
            this.figures = figures;
        }

        /** The figures' base must be set ahead. */
        void setModulus(int m) {
            int d = figures.degree(m);
            int n = figures.power(d);
            if (d < 1 || n < 2 || n > MOST) {
                return;
            }
            modulus = m;
            degree = d;
            size = n;
            int maker = 1;
            while (maker < size && listPowers(maker) < size - 1) {
                maker++;
            }
            int turn = 1 % (size - 1);
            for (int i = 0; i < turns.length; i++) {
                turns[i] = turn;
                turn = turn * figures.base() % (size - 1);
            }
        }

        /** How many powers of x there are; they are noted as they come. */
        private int listPowers(int x) {
            int power = 1;
            for (int i = 0; i < size - 1 && power > 0 && power < size; i++) {
                powers[i] = power;
                places[power] = i;
                power = figures.productBy(power, x, modulus);
                if (power == 1) {
                    return i + 1;
                }
            }
            return 0;
        }

        int modulus() {
            return modulus;
        }

        int degree() {
            return degree;
        }

        int size() {
            return size;
        }

        boolean holds(int a) {
            return a >= 0 && a < size;
        }

        /** The k-th power of the rest that makes all but 0; k is 0 or more. */
        int makerPower(int k) {
            return k < 0 || size < 2 ? 1 : powers[k % (size - 1)];
        }

        int product(int a, int b) {
            if (a < 1 || b < 1 || a >= size || b >= size) {
                return 0;
            }
            return powers[(places[a] + places[b]) % (size - 1)];
        }

        int quotient(int a, int b) {
            if (a < 1 || b < 1 || a >= size || b >= size) {
                return 0;
            }
            return powers[(places[a] + size - 1 - places[b]) % (size - 1)];
        }

        /** a to the power of q^i. */
        int turnedUp(int a, int i) {
            if (a < 1 || a >= size || i < 0 || degree < 1) {
                return 0;
            }
            return powers[places[a] * turns[i % degree] % (size - 1)];
        }
    }

    /** Turned polynomials: rows of rests, the constant first. */
    private static final class Turned {
        static final int ROW = 25;

        final Rests rests;
        final Figures figures;

        Turned(Rests rests) {
            this.rests = rests;
            this.figures = rests.figures;
        }

        static int degreeOf(int[] c) {
            int k = c.length - 1;
            while (k >= 0 && c[k] == 0) {
                k--;
            }
            return k;
        }

        static void clear(int[] c) {
            for (int i = 0; i < c.length; i++) {
                c[i] = 0;
            }
        }

        static void copy(int[] from, int[] to) {
            for (int i = 0; i < to.length; i++) {
                to[i] = i < from.length ? from[i] : 0;
            }
        }

        /** c and s times b together, s a figure. */
        void mix(int[] c, int[] b, int s) {
            for (int i = 0; i < c.length && i < b.length; i++) {
                c[i] = figures.mix(c[i], b[i], s);
            }
        }

        /** c becomes c times b; false, and nothing is done, if that is too long. */
        boolean multiply(int[] c, int[] b) {
            int high = degreeOf(c);
            int low = degreeOf(b);
            if (high >= 0 && low >= 0 && high + low >= c.length) {
                return false;
            }
            // from the top, so that what is still needed is not yet written over
            for (int n = low < 0 ? high : high + low; n >= 0 && n < c.length; n--) {
                int sum = 0;
                for (int j = 0; j <= low && j <= n; j++) {
                    int part = rests.product(c[n - j], rests.turnedUp(b[j], n - j));
                    sum = figures.mix(sum, part, 1);
                }
                c[n] = sum;
            }
            return true;
        }

        /** c becomes what it leaves by b: c was whole times b, and that. */
        void divide(int[] c, int[] b, int[] whole) {
            clear(whole);
            int low = degreeOf(b);
            if (low < 0) {
                return;
            }
            for (int k = degreeOf(c) - low; k >= 0 && k < whole.length; k--) {
                int first = rests.quotient(c[k + low], rests.turnedUp(b[low], k));
                whole[k] = first;
                for (int j = 0; j <= low; j++) {
                    int part = rests.product(first, rests.turnedUp(b[j], k));
                    c[k + j] = figures.difference(c[k + j], part);
                }
            }
        }

        int valueAt(int[] c, int x) {
            int sum = 0;
            for (int i = 0; i < c.length; i++) {
                if (c[i] != 0) {
                    sum = figures.mix(sum, rests.product(c[i], rests.turnedUp(x, i)), 1);
                }
            }
            return sum;
        }
    }

    /**
     * Rows of rests, none of them told by the others, each with a polynomial
     * that tells what it came from.
     */
    private static final class Ties {
        static final int WIDTH = 7;

        private final Figures figures;
        private final int[][] rows = new int[WIDTH * WIDTH][WIDTH];
        private final int[] tags = new int[WIDTH * WIDTH];
        private final boolean[] filled = new boolean[WIDTH * WIDTH];
        private final int[] row = new int[WIDTH];

        Ties(Figures figures) {
            this.figures = figures;
        }

        void clear() {
            for (int i = 0; i < filled.length; i++) {
                filled[i] = false;
            }
        }

        void dropTags() {
            for (int i = 0; i < tags.length; i++) {
                tags[i] = 0;
            }
        }

        /** Adds a row that is one rest. */
        int addRest(int x, int tag) {
            Turned.clear(row);
            row[0] = x;
            return add(row, tag);
        }

        /**
         * NONE: the row is no sum of those that are there, and now it is there
         * too. Else the sum of the tags by which all comes to 0. The row is
         * used up.
         */
        int add(int[] c, int tag) {
            for (int k = Math.min(c.length, WIDTH) - 1; k >= 0; k--) {
                for (int i = WIDTH - 1; i >= 0; i--) {
                    int figure = figures.figure(c[k], i);
                    if (figure == 0) {
                        continue;
                    }
                    int at = k * WIDTH + i;
                    if (!filled[at]) {
                        keep(c, tag, at, figures.inverse(figure));
                        return NONE;
                    }
                    int less = figures.negative(figure);
                    for (int j = 0; j <= k; j++) {
                        c[j] = figures.mix(c[j], rows[at][j], less);
                    }
                    tag = figures.mix(tag, tags[at], less);
                }
            }
            return tag;
        }

        private void keep(int[] c, int tag, int at, int scale) {
            filled[at] = true;
            tags[at] = figures.mix(0, tag, scale);
            for (int j = 0; j < WIDTH; j++) {
                rows[at][j] = j < c.length ? figures.mix(0, c[j], scale) : 0;
            }
        }
    }

    /** What polynomials do by a module. */
    private static final class Acting {
        final Turned turned;
        final Rests rests;
        final Figures figures;
        final Ties ties;
        private final Primes primes;
        private final int[] row = new int[Turned.ROW];
        private final int[] parts = new int[Ties.WIDTH];

        Acting(Turned turned, Primes primes) {
            this.turned = turned;
            this.rests = turned.rests;
            this.figures = turned.figures;
            this.ties = new Ties(turned.figures);
            this.primes = primes;
        }

        int sendBy(int[] g, int poly, int x) {
            int sum = 0;
            for (int k = figures.degree(poly); k >= 0; k--) {
                sum = figures.mix(turned.valueAt(g, sum), x, figures.figure(poly, k));
            }
            return sum;
        }

        /** Puts what the polynomial acts as; false if that is too long. */
        boolean turn(int[] g, int poly, int[] to) {
            Turned.clear(to);
            for (int k = figures.degree(poly); k >= 0; k--) {
                if (!turned.multiply(to, g)) {
                    return false;
                }
                to[0] = figures.sum(to[0], figures.figure(poly, k));
            }
            return true;
        }

        int characteristic(int g0) {
            ties.clear();
            int power = 1;
            for (int k = 0; k <= rests.degree(); k++) {
                int tie = ties.addRest(power, figures.power(k));
                if (tie != NONE) {
                    return tie;
                }
                power = rests.product(power, g0);
            }
            return NONE;
        }

        int height(int[] g, int characteristic) {
            int degree = figures.degree(characteristic);
            if (degree < 1 || !turn(g, characteristic, row)) {
                return NONE;
            }
            int least = 0;
            while (least < row.length - 1 && row[least] == 0) {
                least++;
            }
            return least / degree;
        }

        /**
         * Chains x, T x, .. by turns, each up to where it is tied to itself
         * and to the chains ahead; the ties within the chains make up the
         * characteristic polynomial.
         */
        int points(int[] g) {
            ties.clear();
            int all = 1;
            for (int j = 0; j < rests.degree(); j++) {
                ties.dropTags();
                int x = figures.power(j);
                for (int k = 0; k <= rests.degree(); k++) {
                    int tie = ties.addRest(x, figures.power(k));
                    if (tie != NONE) {
                        all = figures.product(all, tie);
                        break;
                    }
                    x = turned.valueAt(g, x);
                }
            }
            return all;
        }

        int part(int i) {
            return i < 0 || i >= parts.length ? NONE : parts[i];
        }

        int findParts(int[] g) {
            for (int i = 0; i < parts.length; i++) {
                parts[i] = 1;
            }
            primes.find(points(g));
            for (int i = 0; i < primes.many(); i++) {
                if (i == 0 || primes.get(i) != primes.get(i - 1)) {
                    spread(g, primes.get(i));
                }
            }
            int many = 0;
            while (many < parts.length && parts[many] > 1) {
                many++;
            }
            return many;
        }

        /**
         * The k-th power of a prime divides as many parts as the noughts of
         * that power are more, in the prime's degrees, than those of the one
         * below.
         */
        private void spread(int[] g, int prime) {
            int degree = figures.degree(prime);
            int power = 1;
            int before = 0;
            for (int k = 1; degree > 0 && k * degree <= rests.degree(); k++) {
                power = figures.product(power, prime);
                int space = noughtSpace(g, power) / degree;
                for (int i = 0; i < space - before && i < parts.length; i++) {
                    parts[i] = figures.product(parts[i], prime);
                }
                before = space;
            }
        }

        private int noughtSpace(int[] g, int poly) {
            ties.clear();
            int space = 0;
            for (int j = 0; j < rests.degree(); j++) {
                if (ties.addRest(sendBy(g, poly, figures.power(j)), 0) != NONE) {
                    space++;
                }
            }
            return space;
        }

        int greatNorm(int[] g) {
            int characteristic = characteristic(g[0]);
            int power = greatUnit(g);
            int degree = figures.degree(characteristic);
            for (int k = degree; degree > 0 && k <= rests.degree(); k += degree) {
                power = figures.product(power, characteristic);
            }
            return power;
        }

        /**
         * The great power does nothing to rests, so 1 - a + b sends them all
         * to 0; that is the polynomial of the points but for a figure, which
         * is b's first one since a is of lesser degree.
         */
        int greatTrace(int[] g) {
            int less = figures.negative(greatUnit(g));
            return figures.mix(figures.sum(1, greatNorm(g)), points(g), less);
        }

        private int greatUnit(int[] g) {
            int product = 1;
            for (int i = 0; i < rests.degree(); i++) {
                product = rests.product(product, rests.turnedUp(g[2], i));
            }
            int unit = rests.quotient(1, product);
            return rests.degree() % 2 == 1 ? figures.negative(unit) : unit;
        }
    }

    /** Maps between modules, and modules that are alike. */
    private static final class Maps {
        private static final int MOST_DUAL = 4;

        private final Acting acting;
        private final Turned turned;
        private final Rests rests;
        private final Figures figures;
        private final Ties ties;
        private final int[] power = new int[Turned.ROW];
        private final int[] left = new int[Turned.ROW];
        private final int[] whole = new int[Turned.ROW];
        private final int[] tried = new int[4];

        Maps(Acting acting) {
            this.acting = acting;
            this.turned = acting.turned;
            this.rests = acting.rests;
            this.figures = acting.figures;
            this.ties = acting.ties;
        }

        /** Puts the V with V u = u G; false if there is none. */
        boolean lead(int[] u, int[] g, int[] to) {
            Turned.copy(u, left);
            if (!turned.multiply(left, g)) {
                return false;
            }
            turned.divide(left, u, to);
            return Turned.degreeOf(left) < 0;
        }

        /**
         * What the powers of T leave by u: the first that is a sum of those
         * ahead of it tells the least polynomial that leaves nothing.
         */
        int dualNumber(int[] u, int[] g) {
            ties.clear();
            Turned.clear(power);
            power[0] = 1;
            for (int k = 0; k <= MOST_DUAL; k++) {
                Turned.copy(power, left);
                turned.divide(left, u, whole);
                int tie = ties.add(left, figures.power(k));
                if (tie != NONE) {
                    return tie;
                }
                if (!turned.multiply(power, g)) {
                    return NONE;
                }
            }
            return NONE;
        }

        boolean dualRow(int[] u, int[] g, int a, int[] to) {
            if (!acting.turn(g, a, left)) {
                return false;
            }
            turned.divide(left, u, to);
            return true;
        }

        /**
         * Each rest y that is not yet sent to 0 is sent there by t - y^(q-1)
         * behind what there is; the degree grows only with the space that
         * must go to 0.
         */
        void make(int[] g, int rest, int[] to) {
            Turned.clear(to);
            to[0] = 1;
            int x = rest;
            for (int k = 1; k < to.length && k <= rests.degree(); k++) {
                int y = turned.valueAt(to, x);
                if (y == 0) {
                    return;
                }
                int s = rests.quotient(rests.turnedUp(y, 1), y);
                for (int n = k; n >= 0; n--) {
                    int below = n == 0 ? 0 : rests.turnedUp(to[n - 1], 1);
                    to[n] = figures.difference(below, rests.product(s, to[n]));
                }
                x = turned.valueAt(g, x);
            }
        }

        /** u G - G u is linear in u over the figures: its noughts are counted. */
        int countEnds(int[] g, int e) {
            ties.clear();
            int many = 1;
            for (int i = 0; i <= e; i++) {
                for (int k = 0; k < rests.degree(); k++) {
                    putDifference(g, figures.power(k), i);
                    if (ties.add(left, 0) != NONE) {
                        many *= figures.base();
                    }
                }
            }
            return many;
        }

        /** x t^i times G, less G times x t^i. */
        private void putDifference(int[] g, int x, int i) {
            Turned.clear(left);
            for (int j = 0; j < g.length && i + j < left.length; j++) {
                int ahead = rests.product(x, rests.turnedUp(g[j], i));
                int behind = rests.product(g[j], rests.turnedUp(x, j));
                left[i + j] = figures.difference(ahead, behind);
            }
        }

        int leastAlike(int[] g, int[] h) {
            for (int c = 1; c < rests.size(); c++) {
                int same = 0;
                while (same < g.length && same < h.length
                        && rests.product(c, g[same]) == rests.product(h[same], rests.turnedUp(c, same))) {
                    same++;
                }
                if (same == g.length) {
                    return c;
                }
            }
            return NONE;
        }

        /**
         * Modules are as many classes as, over all c that aren't 0, each has
         * modules that it keeps, on the average: c keeps gi if that is 0 or
         * c^(q^i - 1) is 1.
         */
        int countClasses(int rank) {
            int turns = rests.size() - 1;
            long sum = 0;
            for (int k = 0; k < turns; k++) {
                long keeps = 1;
                for (int i = 1; i <= rank; i++) {
                    boolean all = k * (figures.power(i) - 1) % turns == 0;
                    int others = all ? turns : 0;
                    keeps *= i == rank ? others : others + 1;
                }
                sum += keeps;
            }
            return turns < 1 ? NONE : (int) (sum / turns);
        }

        /**
         * One module of each class: with g1 not 0 it can be had among the
         * first q - 1 powers, and then no two g2 are alike; with g1 0 g2 can
         * be had among as many powers as q^2 - 1 and N - 1 have in common.
         */
        int countGreatest(int g0) {
            int characteristic = acting.characteristic(g0);
            int turns = rests.size() - 1;
            int squares = figures.power(2) - 1;
            int many = 0;
            for (int j = 0; j < commonDivisor(squares, turns); j++) {
                many += isGreatest(g0, 0, rests.makerPower(j), characteristic) ? 1 : 0;
            }
            for (int i = 0; i < figures.base() - 1; i++) {
                for (int j = 0; j < turns; j++) {
                    int g1 = rests.makerPower(i);
                    many += isGreatest(g0, g1, rests.makerPower(j), characteristic) ? 1 : 0;
                }
            }
            return many;
        }

        private boolean isGreatest(int g0, int g1, int g2, int characteristic) {
            tried[0] = g0;
            tried[1] = g1;
            tried[2] = g2;
            tried[3] = 0;
            return acting.height(tried, characteristic) == 2;
        }

        private static int commonDivisor(int a, int b) {
            for (int i = 0; i < 64 && b > 0; i++) {
                int left = a % b;
                a = b;
                b = left;
            }
            return a;
        }
    }

    /** All that an image keeps: the world's numbers, what was told, and its steps. */
    private static final class State {
        static final int MODULE = 0;
        static final int MAP = 1;
        private static final int MOST = 10;

        private int base = 2;
        private int modulus = 2;
        private int texts = 0;
        private int done = 0;
        private int all = 0;
        private final int[][] modules = new int[MOST][4];
        private final int[][] maps = new int[MOST][8];
        private final int[] many = new int[2];
        private final int[] kinds = new int[2 * MOST];

        void start(int q, int m) {
            base = q;
            modulus = m;
            done = 0;
            all = 0;
            many[MODULE] = 0;
            many[MAP] = 0;
        }

        void copyOf(State other) {
            base = other.base;
            modulus = other.modulus;
            texts = other.texts;
            done = other.done;
            all = other.all;
            for (int i = 0; i < MOST; i++) {
                Turned.copy(other.modules[i], modules[i]);
                Turned.copy(other.maps[i], maps[i]);
            }
            Turned.copy(other.many, many);
            Turned.copy(other.kinds, kinds);
        }

        int base() {
            return base;
        }

        int modulus() {
            return modulus;
        }

        /** Texts are only ever added behind: so their number tells an image's texts. */
        int texts() {
            return texts;
        }

        void addText() {
            texts++;
        }

        int steps() {
            return done;
        }

        int undone() {
            return all - done;
        }

        int many(int kind) {
            return kind == MAP ? many[MAP] : many[MODULE];
        }

        boolean has(int kind, int which) {
            return which >= 0 && which < many(kind) && which < MOST;
        }

        /** Only for one that is there. */
        int[] get(int kind, int which) {
            int at = which < 0 || which >= MOST ? 0 : which;
            return kind == MAP ? maps[at] : modules[at];
        }

        /** Its number; NONE if it can't be one or there is no place. */
        int tell(int kind, int[] c) {
            int degree = Turned.degreeOf(c);
            boolean fits = kind == MAP ? degree >= 0 && degree <= 7 : degree >= 1 && degree <= 3;
            int number = many(kind);
            if (!fits || number >= MOST || done >= kinds.length) {
                return NONE;
            }
            Turned.copy(c, get(kind, number));
            kinds[done] = kind;
            all = done + 1;
            redoLatest();
            return number;
        }

        int undoLatest() {
            if (done <= 0 || done > kinds.length) {
                return NONE;
            }
            done--;
            many[kinds[done] == MAP ? MAP : MODULE]--;
            return done;
        }

        /** What was undone still stands in its place, behind what is told. */
        int redoLatest() {
            if (done >= all || done >= kinds.length) {
                return NONE;
            }
            many[kinds[done] == MAP ? MAP : MODULE]++;
            done++;
            return done;
        }
    }

    /** Reads texts: first for faults alone, later to work out what they tell. */
    private static final class Reader {
        static final int NO_FAULT = 0;
        static final int MOST_CLAUSES = 20;
        static final int FAULTY = -1;
        static final int NO_CLAUSE = 0;
        static final int MODULE_CLAUSE = 1;
        static final int MAP_CLAUSE = 2;

        private static final int MOST_OPEN = 8;
        private static final int MOST_TOKENS = 300;
        private static final int MOST_NUMBER = 9999;
        private static final int MOST_POWER = 24;
        private static final int OVER = 10000;

        private static final int ENDED = 0;
        private static final int STRANGE = 1;
        private static final int NUMBER = 2;
        private static final int WORD = 3;

        private final Turned turned;
        private final Rests rests;
        private final int[][] slots = new int[2 * MOST_OPEN + 4][Turned.ROW];
        private int[] bytes = new int[0];
        private int length = 0;
        private boolean works = false;
        private boolean stuck = false;
        private int next = 0;
        private int token = ENDED;
        private int place = 0;
        private int number = 0;
        private int clauses = 0;
        private int fault = NO_FAULT;
        private int faultAt = NONE;

        Reader(Turned turned) {
            this.turned = turned;
            this.rests = turned.rests;
        }

        int check(int[] from, int size) {
            start(from, size, false);
            for (int i = 0; i <= MOST_CLAUSES; i++) {
                if (readClause() <= NO_CLAUSE) {
                    break;
                }
            }
            return fault;
        }

        int faultPlace() {
            return faultAt;
        }

        void start(int[] from, int size, boolean toWork) {
            bytes = from;
            length = Math.min(size, from.length);
            works = toWork;
            stuck = false;
            next = 0;
            clauses = 0;
            fault = NO_FAULT;
            faultAt = NONE;
            step();
        }

        /** Whether what was worked out last can't be. */
        boolean cannot() {
            return stuck;
        }

        int[] result() {
            return slots[0];
        }

        int readClause() {
            if (token == ENDED) {
                return NO_CLAUSE;
            }
            int kind = clauseKind();
            if (kind == FAULTY) {
                fail(1);
                return FAULTY;
            }
            if (clauses >= MOST_CLAUSES) {
                fail(4);
                return FAULTY;
            }
            clauses++;
            stuck = false;
            step();
            return readSum(0, 0) && expect(';') ? kind : FAULTY;
        }

        private int clauseKind() {
            if (isWord("module")) {
                return MODULE_CLAUSE;
            }
            return isWord("map") ? MAP_CLAUSE : FAULTY;
        }

        private boolean readSum(int depth, int slot) {
            if (!readProduct(depth, slot)) {
                return false;
            }
            for (int i = 0; i < MOST_TOKENS && (token == '+' || token == '-'); i++) {
                boolean less = token == '-';
                step();
                if (!readProduct(depth, slot + 1)) {
                    return false;
                }
                addUp(slot, less);
            }
            return true;
        }

        private boolean readProduct(int depth, int slot) {
            if (!readPower(depth, slot)) {
                return false;
            }
            for (int i = 0; i < MOST_TOKENS && token == '*'; i++) {
                step();
                if (!readPower(depth, slot + 1)) {
                    return false;
                }
                multiplyUp(slot);
            }
            return true;
        }

        private boolean readPower(int depth, int slot) {
            if (!readOne(depth, slot)) {
                return false;
            }
            if (token != '^') {
                return true;
            }
            step();
            if (token != NUMBER) {
                return fail(1);
            }
            if (number > MOST_POWER) {
                return fail(2);
            }
            raise(slot, number);
            step();
            return true;
        }

        private boolean readOne(int depth, int slot) {
            if (token == NUMBER) {
                return readNumber(slot);
            }
            if (isWord("t")) {
                put(slot, 1, 1);
                step();
                return true;
            }
            if (token != '(' && token != '-') {
                return fail(1);
            }
            if (depth >= MOST_OPEN) {
                return fail(3);
            }
            boolean less = token == '-';
            step();
            if (!less) {
                return readSum(depth + 1, slot) && expect(')');
            }
            if (!readOne(depth + 1, slot)) {
                return false;
            }
            turnOver(slot);
            return true;
        }

        private boolean readNumber(int slot) {
            if (number > MOST_NUMBER) {
                return fail(2);
            }
            if (works && !rests.holds(number)) {
                stuck = true;
            }
            put(slot, 0, number);
            step();
            return true;
        }

        private boolean expect(int sign) {
            if (token != sign) {
                return fail(1);
            }
            step();
            return true;
        }

        private boolean fail(int what) {
            fault = what;
            faultAt = place;
            return false;
        }

        private boolean isWorking(int slot) {
            return works && !stuck && slot >= 0 && slot + 1 < slots.length;
        }

        private void put(int slot, int i, int rest) {
            if (isWorking(slot)) {
                Turned.clear(slots[slot]);
                slots[slot][i] = rest;
            }
        }

        private void addUp(int slot, boolean less) {
            if (isWorking(slot)) {
                turned.mix(slots[slot], slots[slot + 1], less ? turned.figures.negative(1) : 1);
            }
        }

        private void multiplyUp(int slot) {
            if (isWorking(slot) && !turned.multiply(slots[slot], slots[slot + 1])) {
                stuck = true;
            }
        }

        private void turnOver(int slot) {
            if (isWorking(slot)) {
                Turned.copy(slots[slot], slots[slot + 1]);
                Turned.clear(slots[slot]);
                turned.mix(slots[slot], slots[slot + 1], turned.figures.negative(1));
            }
        }

        private void raise(int slot, int power) {
            if (isWorking(slot)) {
                Turned.copy(slots[slot], slots[slot + 1]);
                put(slot, 0, 1);
                for (int i = 0; i < power && i < MOST_POWER; i++) {
                    stuck = stuck || !turned.multiply(slots[slot], slots[slot + 1]);
                }
            }
        }

        private boolean isWord(String word) {
            if (token != WORD || next - place != word.length()) {
                return false;
            }
            for (int i = 0; i < word.length(); i++) {
                if (byteAt(place + i) != word.charAt(i)) {
                    return false;
                }
            }
            return true;
        }

        /** Below 0 behind the last one. */
        private int byteAt(int i) {
            return i < 0 || i >= length || i >= bytes.length ? -1 : bytes[i];
        }

        /** Goes to the next token. */
        private void step() {
            while (next < length && (byteAt(next) == 32 || byteAt(next) == 10)) {
                next++;
            }
            place = next;
            int first = byteAt(next);
            if (first < 0) {
                token = ENDED;
            } else if (isDigit(first)) {
                token = NUMBER;
                stepNumber();
            } else if (isLetter(first)) {
                token = WORD;
                while (next < length && isLetter(byteAt(next))) {
                    next++;
                }
            } else {
                token = isSign(first) ? first : STRANGE;
                next++;
            }
        }

        private void stepNumber() {
            number = 0;
            while (next < length && isDigit(byteAt(next))) {
                number = Math.min(OVER, number * 10 + byteAt(next) - '0');
                next++;
            }
        }

        private static boolean isDigit(int b) {
            return b >= '0' && b <= '9';
        }

        private static boolean isLetter(int b) {
            return b >= 'a' && b <= 'z' || b >= 'A' && b <= 'Z';
        }

        private static boolean isSign(int b) {
            return b == '+' || b == '-' || b == '*' || b == '^' || b == '(' || b == ')' || b == ';';
        }
    }
}
