import java.util.Random;

/** Runs of all calls by many seeds, each answer held against the model's. */
public final class RandomRunsTest {
    private static final int MOST_ASKED = 512;
    private static final int[][] WORLDS = {
        {2, 2}, {2, 3}, {2, 7}, {2, 11}, {2, 13}, {2, 19}, {2, 25}, {2, 31}, {2, 37}, {2, 61}, {2, 67}, {2, 131}, {2, 247},
        {3, 3}, {3, 4}, {3, 5}, {3, 10}, {3, 14}, {3, 17}, {3, 34}, {3, 86}, {3, 113},
        {5, 5}, {5, 7}, {5, 9}, {5, 27}, {5, 28}, {5, 31}, {5, 131}, {5, 146}
    };

    private static Random random;
    private static PowersForTimes x;
    private static Model y;
    private static int asked;

    public static void main(String[] args) {
        int seeds = args.length > 0 ? Integer.parseInt(args[0]) : 150;
        int from = args.length > 1 ? Integer.parseInt(args[1]) : 0;
        for (int seed = from; seed < from + seeds; seed++) {
            random = new Random(seed);
            x = new PowersForTimes();
            y = new Model();
            asked = 0;
            while (asked < MOST_ASKED) {
                call(seed + "/" + asked + " ");
            }
        }
        Due.finish();
    }

    private static int less(int n) {
        return random.nextInt(n);
    }

    /** Mostly a rest; sometimes beside them. */
    private static int rest() {
        int n = y.naive().n;
        int how = less(40);
        return how == 0 ? -1 : how == 1 ? n : how < 8 ? 0 : how < 12 ? 1 : less(n);
    }

    private static int index(int many) {
        return less(12) == 0 ? less(many + 4) - 2 : less(Math.max(1, many));
    }

    private static int module() {
        return index(y.count(4));
    }

    private static int map() {
        return index(y.count(5));
    }

    private static int poly() {
        int q = y.naive().q;
        long most = 1;
        int figures = less(60) == 0 ? 14 : less(4) == 0 ? 13 : 1 + less(7);
        for (int i = 0; i < figures; i++) {
            most *= q;
        }
        int a = (int) Math.min(Integer.MAX_VALUE, (long) (random.nextDouble() * most));
        return less(80) == 0 ? -a : a;
    }

    private static void due(String call, int got, int want) {
        asked++;
        Due.due(call, got, want);
    }

    private static void call(String at) {
        int how = less(110);
        if (how >= 100) {
            texts(at);
        } else if (how < 22) {
            tell(at);
        } else if (how < 40) {
            acts(at);
        } else if (how < 58) {
            modules(at);
        } else if (how < 74) {
            maps(at);
        } else if (how < 86) {
            numbers(at);
        } else {
            rests(at);
        }
    }

    private static void tell(String at) {
        int how = less(24);
        if (how == 0) {
            int[] w = WORLDS[less(WORLDS.length)];
            int q = less(12) == 0 ? less(8) : w[0];
            int m = less(6) == 0 ? less(300) - 4 : w[1];
            due(at + "world " + q + " " + m, x.world(q, m), y.world(q, m));
        } else if (how < 9) {
            int g0 = rest();
            int g1 = rest();
            int g2 = less(3) == 0 ? 0 : rest();
            int g3 = less(3) > 0 ? 0 : rest();
            due(at + "module " + g0 + " " + g1 + " " + g2 + " " + g3, x.module(g0, g1, g2, g3), y.module(g0, g1, g2, g3));
        } else if (how < 12) {
            int c0 = rest();
            int c1 = rest();
            int c2 = less(2) * rest();
            due(at + "map " + c0 + " " + c1 + " " + c2, x.map(c0, c1, c2), y.map(c0, c1, c2));
        } else if (how < 17) {
            int m = module();
            int r = rest();
            due(at + "made " + m + " " + r, x.made(m, r), y.made(m, r));
        } else if (how < 21) {
            due(at + "undo", x.undo(), y.undo());
        } else {
            due(at + "redo", x.redo(), y.redo());
        }
    }

    private static void acts(String at) {
        int m = module();
        int p = poly();
        int r = rest();
        switch (less(5)) {
            case 0 -> due(at + "act " + m + " " + p + " " + r, x.act(m, p, r), y.act(m, p, r));
            case 1 -> {
                int i = less(29) - 2;
                due(at + "acts " + m + " " + p + " " + i, x.acts(m, p, i), y.acts(m, p, i));
            }
            case 2 -> {
                int u = map();
                due(at + "send " + u + " " + r, x.send(u, r), y.send(u, r));
            }
            case 3 -> {
                boolean map = less(2) == 0;
                int which = map ? map() : module();
                int i = less(12) - 2;
                due(at + "of " + map + " " + which + " " + i, x.of(map, which, i), y.of(map, which, i));
            }
            default -> {
                int i = less(3) == 0 ? less(8) - 2 : -1;
                due(at + "noughts " + m + " " + p + " " + i, x.noughts(m, p, i), y.noughts(m, p, i));
            }
        }
    }

    private static void modules(String at) {
        int m = module();
        int n = y.naive().n;
        switch (less(7)) {
            case 0, 1 -> {
                int i = less(5) - 1;
                due(at + "about " + m + " " + i, x.about(m, i), y.about(m, i));
            }
            case 2, 3 -> {
                int i = less(6) - 2;
                due(at + "parts " + m + " " + i, x.parts(m, i), y.parts(m, i));
            }
            case 4, 5 -> {
                int i = less(4) - 1;
                due(at + "great " + m + " " + i, x.great(m, i), y.great(m, i));
            }
            default -> {
                int g0 = rest();
                int rank = less(5);
                if (less(2) == 0) {
                    if (n < 10 || n < 82 && less(10) == 0) {
                        due(at + "greatest " + g0, x.greatest(g0), y.greatest(g0));
                    }
                } else if (n < 10 || n < 30 && less(10) == 0 || rank < 2) {
                    due(at + "classes " + g0 + " " + rank, x.classes(g0, rank), y.classes(g0, rank));
                }
            }
        }
    }

    private static void maps(String at) {
        int m = module();
        int u = map();
        int n = y.naive().n;
        switch (less(8)) {
            case 0, 1, 2 -> {
                int i = less(6) - 1;
                due(at + "leads " + u + " " + m + " " + i, x.leads(u, m, i), y.leads(u, m, i));
            }
            case 3, 4 -> {
                int i = less(3) == 0 ? less(30) - 3 : less(3) - 1;
                due(at + "dual " + u + " " + m + " " + i, x.dual(u, m, i), y.dual(u, m, i));
            }
            case 5 -> {
                int e = less(5) - 1;
                if (e < 1 || n < 6 || e < 2 && n < 33 || n < 30 && less(8) == 0) {
                    due(at + "ends " + m + " " + e, x.ends(m, e), y.ends(m, e));
                }
            }
            default -> {
                int o = module();
                due(at + "alike " + m + " " + o, x.alike(m, o), y.alike(m, o));
            }
        }
    }

    private static void texts(String at) {
        int how = less(12);
        int n = less(8) == 0 ? less(304) - 2 : y.count(9);
        switch (how) {
            case 0, 1, 2 -> write(at, TextsTest.randomText(random));
            case 3, 4 -> due(at + "text", x.text(), y.text());
            case 5 -> due(at + "end " + n, x.end(n), y.end(n));
            case 6 -> {
                int what = less(4) - 1;
                due(at + "fault " + what, x.fault(what), y.fault(what));
            }
            default -> {
                int text = less(5) == 0 ? less(7) - 2 : less(Math.max(1, y.count(6)));
                due(at + "told " + text, x.told(text), y.told(text));
            }
        }
    }

    /** Mostly onto an empty tape; now and then behind what there is. */
    private static void write(String at, String text) {
        int before = less(8) == 0 ? y.count(9) : 0;
        if (asked + text.length() / 20 + 4 > MOST_ASKED) {
            return;
        }
        due(at + "end " + before, x.end(before), y.end(before));
        byte[] b = new byte[text.length() + 20];
        for (int i = 0; i < text.length(); i++) {
            b[i] = (byte) text.charAt(i);
        }
        for (int i = 0; i < text.length(); i += 20) {
            int[] f = new int[5];
            for (int k = 0; k < 5; k++) {
                f[k] = Due.four(b, i + 4 * k);
            }
            due(at + "feed " + i, x.feed(f[0], f[1], f[2], f[3], f[4]), y.feed(f[0], f[1], f[2], f[3], f[4]));
        }
        int n = before + text.length();
        due(at + "end " + n, x.end(n), y.end(n));
        if (less(8) > 0) {
            due(at + "text", x.text(), y.text());
        }
    }

    private static void numbers(String at) {
        int a = poly();
        int b = poly();
        switch (less(8)) {
            case 0, 1, 2 -> {
                int how = less(8) - 1;
                due(at + "poly " + how + " " + a + " " + b, x.poly(how, a, b), y.poly(how, a, b));
            }
            case 3, 4 -> due(at + "symbol " + a + " " + b, x.symbol(a, b), y.symbol(a, b));
            case 5 -> {
                int k = less(14);
                int d = less(6);
                due(at + "sums " + k + " " + d, x.sums(k, d), y.sums(k, d));
            }
            default -> {
                int i = less(6) - 2;
                due(at + "factors " + a + " " + i, x.factors(a, i), y.factors(a, i));
            }
        }
    }

    private static void rests(String at) {
        switch (less(8)) {
            case 0, 1, 2 -> {
                int how = less(6) - 1;
                int a = rest();
                int b = rest();
                due(at + "work " + how + " " + a + " " + b, x.work(how, a, b), y.work(how, a, b));
            }
            case 3 -> {
                if (less(3) == 0) {
                    due(at + "image", x.image(), y.image());
                }
            }
            case 4 -> {
                if (less(3) == 0) {
                    due(at + "back", x.back(), y.back());
                }
            }
            default -> {
                int what = less(13) - 1;
                due(at + "count " + what, x.count(what), y.count(what));
            }
        }
    }
}
