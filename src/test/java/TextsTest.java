import java.util.Random;

/** Promises 7 to 11: the tape, texts, their faults, and what they tell. */
public final class TextsTest {
    private static Random random;

    public static void main(String[] args) {
        tape();
        faults();
        places();
        told();
        int seeds = args.length > 0 ? Integer.parseInt(args[0]) : 800;
        for (int seed = 0; seed < seeds; seed++) {
            random = new Random(seed);
            randomTexts(seed);
        }
        Due.finish();
    }

    private static void tape() {
        PowersForTimes x = new PowersForTimes();
        Due.due("end(1) of nothing", x.end(1), -1);
        Due.due("end(-1)", x.end(-1), -1);
        Due.due("end(0)", x.end(0), 0);
        for (int i = 1; i <= 14; i++) {
            Due.due("feed " + i, x.feed(i, i, i, i, i), 20 * i);
        }
        Due.due("end(281)", x.end(281), -1);
        Due.due("feed to 300", x.feed(1, 2, 3, 4, 5), 300);
        Due.due("feed above 300", x.feed(1, 2, 3, 4, 5), -1);
        Due.due("bytes", x.count(9), 300);
        Due.due("end(281)", x.end(281), 281);
        Due.due("feed to 301", x.feed(1, 2, 3, 4, 5), -1);
        Due.due("end(280)", x.end(280), 280);
        Due.due("feed to 300 again", x.feed(1, 2, 3, 4, 5), 300);
        Due.due("end(280) again", x.end(280), 280);
        Due.due("bytes", x.count(9), 280);
        Due.due("a text of strange bytes", x.text(), -1);
        Due.due("its fault", x.fault(0), 1);
        Due.due("its place", x.fault(1), 0);
        Due.due("the tape is empty then", x.count(9), 0);
        // bytes come the highest first, those above 127 too
        x.feed(0x6d617020, 0x313bff80, 0, 0, 0);
        x.end(8);
        Due.due("a byte of 255", x.text(), -1);
        Due.due("its place", x.fault(1), 6);
        x.feed(0x6d617020, 0x313bff80, 0, 0, 0);
        x.end(6);
        Due.due("map 1;", x.text(), 0);
        Due.due("told", x.told(0), -1);
        Due.due("its degree", x.of(true, 0, -1), 0);
    }

    private static void one(String text, int fault, int place) {
        PowersForTimes x = new PowersForTimes();
        Due.due("no fault yet", x.fault(0), -1);
        Due.due("no place yet", x.fault(1), -1);
        Due.put(x, text);
        String name = "'" + text + "' ";
        Due.due(name + "text", x.text(), fault == 0 ? 0 : -1);
        Due.due(name + "fault", x.fault(0), fault);
        Due.due(name + "place", x.fault(1), fault == 0 ? -1 : place);
        Due.due(name + "tape", x.count(9), 0);
        Due.due(name + "texts", x.count(6), fault == 0 ? 1 : 0);
        Due.due(name + "fault(2)", x.fault(2), -1);
        Due.due(name + "fault(-1)", x.fault(-1), -1);
    }

    private static void faults() {
        one("", 0, 0);
        one(" \n ", 0, 0);
        one("map 1;", 0, 0);
        one("map1;", 0, 0);
        one("\nmodule\n1+t ; ", 0, 0);
        one("map 0009999;", 0, 0);
        one("map t^024;", 0, 0);
        one("map t^000;", 0, 0);
        one("map 1 - -1*-t;", 0, 0);
        one("map -t^2;", 0, 0);
        one("map ((((((((1))))))))*((((((((1))))))));", 0, 0);
        one("map --------1--------1;", 0, 0);
        one("map -(-(-(-(1))))^2;", 0, 0);
        one("map 1", 1, 5);
        one("map 1  ", 1, 7);
        one("map", 1, 3);
        one("map ;", 1, 4);
        one("mapt;", 1, 0);
        one("Map 1;", 1, 0);
        one("map T;", 1, 4);
        one("mapa 1;", 1, 0);
        one("mapz 1;", 1, 0);
        one("mapA 1;", 1, 0);
        one("mapZ 1;", 1, 0);
        one("map`1;", 1, 3);
        one("map{1;", 1, 3);
        one("map@1;", 1, 3);
        one("map[1;", 1, 3);
        one("map 1/1;", 1, 5);
        one("map 1:1;", 1, 5);
        one("map tt;", 1, 4);
        one("map t2;", 1, 5);
        one("map 2t;", 1, 5);
        one("map (1;", 1, 6);
        one("map 1);", 1, 5);
        one("map ();", 1, 5);
        one("map 1+;", 1, 6);
        one("map +1;", 1, 4);
        one("map 1**1;", 1, 6);
        one("map t^t;", 1, 6);
        one("map t^-1;", 1, 6);
        one("map t^(2);", 1, 6);
        one("map t^2^2;", 1, 7);
        one("map 1 1;", 1, 6);
        one("map 1;;", 1, 6);
        one("map 1; 1", 1, 7);
        one("map 1\t;", 1, 5);
        one("map 1\r;", 1, 5);
        one("module map 1;", 1, 7);
        one("map 1,", 1, 5);
        one("map 10000;", 2, 4);
        one("map 99999999999999999999999999;", 2, 4);
        one("map 1 10000;", 1, 6);
        one("map t^25;", 2, 6);
        one("map t^99999;", 2, 6);
        one("map t^4294967297;", 2, 6);
    }

    private static void places() {
        one("map (((((((((", 3, 12);
        one("map ---------1;", 3, 12);
        one("map -(-(-(-(-1))));", 3, 12);
        one("map ((((((((1)-1)))))))-(-(((((((1;", 3, 32);
        one("map ((((((((-1", 3, 12);
        one("map ((((((((1 - 1 + (", 3, 20);
        one("map ((((((((1-1))))))));", 0, 0);
        one("map ((((((((99999", 2, 12);
        one("map ((((((((^", 1, 12);
        String twenty = "map 1;".repeat(20);
        one(twenty, 0, 0);
        one(twenty + " ", 0, 0);
        one(twenty + "map 1;", 4, 120);
        one(twenty + "\n module t;", 4, 122);
        one(twenty + "t", 1, 120);
        one(twenty + ";", 1, 120);
        one(twenty + "mapmap", 1, 120);
        one("map 1;" + " ".repeat(294), 0, 0);
        one("map 1+" + "1+".repeat(146) + "1;", 0, 0);
        one("map 1+" + "1+".repeat(146) + "1 ", 1, 300);
    }

    private static void text(PowersForTimes x, String text, int number) {
        Due.put(x, text);
        Due.due("'" + text + "'", x.text(), number);
    }

    private static void row(PowersForTimes x, boolean map, int which, int... c) {
        for (int i = 0; i < c.length; i++) {
            Due.due("of(" + map + ", " + which + ", " + i + ")", x.of(map, which, i), c[i]);
        }
        int degree = c.length - 1;
        Due.due("of(" + map + ", " + which + ", -1)", x.of(map, which, -1), degree);
    }

    private static void told() {
        PowersForTimes x = new PowersForTimes();
        Due.due("told of none", x.told(0), -2);
        x.world(2, 7);
        text(x, "map t*2; map 2*t; map (t+1)^2; map -t^2 + 0*t^24; map t^0*3; map 0^0; module 2+t*2*t;", 0);
        Due.due("told(0)", x.told(0), -1);
        // t 2 = 2^2 t = 3 t
        row(x, true, 0, 0, 3);
        row(x, true, 1, 0, 2);
        row(x, true, 2, 1, 0, 1);
        row(x, true, 3, 0, 0, 1);
        row(x, true, 4, 3);
        row(x, true, 5, 1);
        // t 2 t = 3 t^2
        row(x, false, 0, 2, 0, 3);
        Due.due("steps", x.count(7), 7);
        text(x, "module t^3; map t^7; map t^8; map 1;", 1);
        Due.due("told(1)", x.told(1), 2);
        Due.due("maps", x.count(5), 7);
        Due.due("modules", x.count(4), 2);
        text(x, "map 1;map 1;map 1;map 1;", 2);
        Due.due("an 11th map", x.told(2), 3);
        Due.due("maps", x.count(5), 10);
        text(x, "module 1; module t;", 3);
        Due.due("what is no module", x.told(3), 0);
        Due.due("told(4)", x.told(4), -2);
        Due.due("told(-1)", x.told(-1), -2);
        Due.put(x, "map 1;");
        Due.due("a fifth text", x.text(), -1);
        Due.due("the tape stays", x.count(9), 6);
        Due.due("the latest fault stays", x.fault(0), 0);
        Due.put(x, "nonsense");
        Due.due("a fifth text with a fault", x.text(), -1);
        Due.due("it is not read", x.fault(0), 0);
        Due.due("texts", x.count(6), 4);
        Due.due("texts stay in another world", x.world(3, 10), 9);
        Due.due("texts", x.count(6), 4);
        Due.due("told(0) there", x.told(0), -1);
        // over 3: -t^2 is (-t)^2
        row(x, true, 3, 0, 0, 1);
        // t 2 = 2 t, since 2 is a figure
        row(x, true, 0, 0, 2);
        onTheWay();
        redoByText();
        twenty();
    }

    private static void twenty() {
        PowersForTimes x = new PowersForTimes();
        text(x, "map 1;module t;".repeat(10), 0);
        Due.due("told", x.told(0), -1);
        Due.due("steps", x.count(7), 20);
        Due.due("told again", x.told(0), 0);
        Due.due("undo", x.undo(), 19);
        Due.due("maps", x.count(5), 10);
        Due.due("modules", x.count(4), 9);
        Due.due("redo", x.redo(), 20);
        Due.due("image", x.image(), 20);
        Due.due("world", x.world(2, 3), 2);
        Due.due("back", x.back(), 20);
        Due.due("a 10th", x.of(false, 9, 1), 1);
        x.world(2, 3);
        text(x, "map 1;".repeat(10) + "module t;".repeat(9) + "map 1;", 1);
        Due.due("the 20th", x.told(1), 19);
    }

    private static void cannot(String text, int clause) {
        PowersForTimes x = new PowersForTimes();
        x.world(3, 10);
        text(x, text, 0);
        Due.due("told '" + text + "'", x.told(0), clause);
    }

    private static void onTheWay() {
        cannot("map 8;map 9;", 1);
        cannot("map 9*0+1;", 0);
        cannot("map 1+9^0;", 0);
        cannot("map t^24-t^24+1;", -1);
        cannot("map t^24*t*0+1;", 0);
        cannot("map t^24*0*t+1;", -1);
        cannot("map 0*(t^24*t)+1;", 0);
        cannot("map 0*t^24*t^24+1;", -1);
        cannot("map (t^13)^1*0+1;", -1);
        cannot("map (t^13)^2*0+1;", 0);
        cannot("map (t^13)^0;", -1);
        cannot("map (t^12)^2*0+1;", -1);
        cannot("map 0;", 0);
        cannot("map 1-1;", 0);
        cannot("map t^7;map t^8-t^8+t;map t^8;", 2);
        cannot("module t^3;module t^4;", 1);
        cannot("module 0;", 0);
        cannot("module 8;", 0);
        cannot("map (1+t)^24 - t^24;", 0);
        cannot("", -1);
        cannot("map 1^24;", -1);
    }

    private static void redoByText() {
        PowersForTimes x = new PowersForTimes();
        text(x, "map 9;", 0);
        text(x, "", 1);
        text(x, "map 1;map 9;", 2);
        x.map(1, 0, 0);
        x.map(1, 0, 0);
        Due.due("undo", x.undo(), 1);
        Due.due("told(0)", x.told(0), 0);
        Due.due("told(1)", x.told(1), -1);
        Due.due("nothing was told", x.count(8), 1);
        Due.due("told(2)", x.told(2), 1);
        Due.due("one was told", x.count(8), 0);
        Due.due("steps", x.count(7), 2);
        Due.due("redo", x.redo(), -1);
        Due.due("undo", x.undo(), 1);
    }

    private static int less(int n) {
        return random.nextInt(n);
    }

    private static String sum(int depth) {
        StringBuilder s = new StringBuilder();
        for (int i = less(3); i >= 0; i--) {
            for (int k = less(3) * less(2); k >= 0; k--) {
                s.append(one(depth));
                if (less(5) == 0) {
                    s.append("^").append(less(30) == 0 ? less(40) : less(4));
                }
                s.append(k > 0 ? "*" : "");
                s.append(less(9) == 0 ? less(2) == 0 ? " " : "\n" : "");
            }
            s.append(i == 0 ? "" : less(2) == 0 ? "+" : "-");
        }
        return s.toString();
    }

    private static String one(int depth) {
        int how = less(10);
        if (how == 0 && depth < 9) {
            return "(" + sum(depth + 1) + ")";
        }
        if (how == 1) {
            return "-" + one(depth + 1);
        }
        return how < 6 ? "t" : less(40) == 0 ? "" + less(12000) : "" + less(10);
    }

    /** For the runs of other tests. */
    static String randomText(Random by) {
        random = by;
        return randomText();
    }

    private static String randomText() {
        StringBuilder s = new StringBuilder();
        int clauses = less(60) == 0 ? 21 : less(5);
        for (int i = 0; i < clauses; i++) {
            String sum = clauses > 5 ? "" + less(9) : sum(0);
            s.append(less(2) == 0 ? "map " : "module ").append(sum).append(less(60) == 0 ? "" : ";");
        }
        for (int i = less(3) * less(2) * less(2); i > 0 && s.length() > 0; i--) {
            String signs = "()-+*^;t 9\nmap$(-(-";
            int at = less(s.length());
            if (less(2) == 0) {
                s.setCharAt(at, signs.charAt(less(signs.length())));
            } else {
                s.insert(at, signs.charAt(less(signs.length())));
            }
        }
        return s.length() > 300 ? s.substring(0, 300) : s.toString();
    }

    private static void randomTexts(int seed) {
        int[][] worlds = {{2, 2}, {2, 7}, {3, 10}, {5, 7}, {2, 131}, {3, 5}, {5, 31}};
        PowersForTimes x = new PowersForTimes();
        Model y = new Model();
        // what is asked of an object stays below 512 calls: a round of them is 206 at most
        for (int asked = 0; asked < 300;) {
            int[] w = worlds[less(worlds.length)];
            Due.due(seed + " world", x.world(w[0], w[1]), y.world(w[0], w[1]));
            String text = randomText();
            Due.put(x, text);
            put(y, text);
            String name = seed + " '" + text + "' ";
            Due.due(name + "text", x.text(), y.text());
            Due.due(name + "fault", x.fault(0), y.fault(0));
            Due.due(name + "place", x.fault(1), y.fault(1));
            Due.due(name + "bytes", x.count(9), y.count(9));
            int which = less(y.count(6) + 1);
            Due.due(name + "told " + which, x.told(which), y.told(which));
            int modules = y.count(4);
            int maps = y.count(5);
            Due.due(name + "modules", x.count(4), modules);
            Due.due(name + "maps", x.count(5), maps);
            for (int k = 0; k < modules + maps; k++) {
                boolean map = k < maps;
                for (int c = -1; c < 8; c++) {
                    int at = map ? k : k - maps;
                    Due.due(name + "of " + map + " " + at + " " + c, x.of(map, at, c), y.of(map, at, c));
                }
            }
            asked += 26 + 9 * (modules + maps);
            if (less(4) == 0) {
                Due.due(seed + " back", x.back(), y.back());
            } else if (less(4) == 0) {
                Due.due(seed + " image", x.image(), y.image());
            }
        }
    }

    private static void put(Model y, String text) {
        y.end(0);
        byte[] bytes = new byte[300];
        for (int i = 0; i < text.length(); i++) {
            bytes[i] = (byte) text.charAt(i);
        }
        for (int i = 0; i < 300; i += 20) {
            y.feed(Due.four(bytes, i), Due.four(bytes, i + 4), Due.four(bytes, i + 8), Due.four(bytes, i + 12), Due.four(bytes, i + 16));
        }
        y.end(text.length());
    }
}
