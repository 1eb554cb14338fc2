/** Each promise by a few runs of calls told by hand: ordinary ones, edges, wrong ones. */
public final class PromisesTest {
    private static final int LEAST = Integer.MIN_VALUE;
    private static final int MOST = Integer.MAX_VALUE;

    public static void main(String[] args) {
        newObject();
        world();
        work();
        poly();
        module();
        map();
        of();
        act();
        acts();
        sendAndNoughts();
        about();
        parts();
        great();
        leads();
        dual();
        made();
        ends();
        alike();
        classes();
        greatest();
        sums();
        symbol();
        factors();
        steps();
        image();
        imageOfTexts();
        Due.finish();
    }

    private static void due(String call, int got, int want) {
        Due.due(call, got, want);
    }

    private static PowersForTimes at(int q, int m, int n) {
        PowersForTimes x = new PowersForTimes();
        due("world(" + q + ", " + m + ")", x.world(q, m), n);
        return x;
    }

    private static void newObject() {
        PowersForTimes x = new PowersForTimes();
        int[] want = {2, 2, 1, 2, 0, 0, 0, 0, 0, 0};
        for (int i = 0; i < want.length; i++) {
            due("count(" + i + ")", x.count(i), want[i]);
        }
        due("count(-1)", x.count(-1), -2);
        due("count(10)", x.count(10), -2);
        due("undo", x.undo(), -1);
        due("redo", x.redo(), -1);
        due("fault(0)", x.fault(0), -1);
        due("fault(1)", x.fault(1), -1);
        due("NONE", PowersForTimes.NONE, -1);
        // its image is the new object
        due("world", x.world(3, 10), 9);
        due("module", x.module(1, 1, 1, 1), 0);
        due("back", x.back(), 0);
        for (int i = 0; i < want.length; i++) {
            due("count(" + i + ")", x.count(i), want[i]);
        }
        due("work(0, 1, 1)", x.work(0, 1, 1), 0);
        due("work(0, 2, 1)", x.work(0, 2, 1), -1);
    }

    private static void world() {
        PowersForTimes x = at(2, 131, 128);
        due("d", x.count(2), 7);
        due("5, 131", x.world(5, 131), 125);
        due("3, 113", x.world(3, 86), 81);
        due("2, 3", x.world(2, 3), 2);
        int[][] wrong = {{2, 0}, {2, 1}, {2, 4}, {2, 5}, {2, 6}, {2, 9}, {2, 285}, {2, 283}, {2, LEAST}, {2, MOST}, {2, -7},
            {3, 1}, {3, 2}, {3, 6}, {3, 9}, {3, 19}, {3, 20}, {3, 250}, {5, 25}, {5, 10}, {5, 627}, {4, 7}, {7, 7}, {1, 2}, {0, 2},
            {-2, 2}, {LEAST, 2}, {MOST, 2}};
        for (int[] w : wrong) {
            due("world(" + w[0] + ", " + w[1] + ")", x.world(w[0], w[1]), -1);
            due("q", x.count(0), 2);
            due("M", x.count(1), 3);
            due("poly(2, 3, 3)", x.poly(2, 3, 3), 5);
        }
        x.module(1, 1, 0, 0);
        x.map(1, 1, 0);
        x.undo();
        due("a wrong world takes nothing", x.world(2, 8), -1);
        due("steps", x.count(7), 1);
        due("undone", x.count(8), 1);
        Due.put(x, "map 1;");
        due("text", x.text(), 0);
        Due.put(x, "map");
        due("the same world", x.world(2, 3), 2);
        int[] want = {2, 3, 1, 2, 0, 0, 1, 0, 0, 3};
        for (int i = 0; i < want.length; i++) {
            due("count(" + i + ")", x.count(i), want[i]);
        }
        due("redo", x.redo(), -1);
        due("told", x.told(0), -1);
    }

    private static void work() {
        PowersForTimes x = at(3, 14, 9);
        // x^2 = -x - 2 = 2 x + 1
        due("x x", x.work(2, 3, 3), 7);
        due("0 x", x.work(2, 0, 3), 0);
        due("8 + 8", x.work(0, 8, 8), 4);
        due("0 - 5", x.work(1, 0, 5), 7);
        due("0 by 5", x.work(3, 0, 5), 0);
        due("7 by 3", x.work(3, 7, 3), 3);
        due("1 by 2", x.work(3, 1, 2), 2);
        due("by 0", x.work(3, 5, 0), -1);
        due("0 by 0", x.work(3, 0, 0), -1);
        for (int how : new int[] {-1, 4, LEAST, MOST}) {
            due("work(" + how + ")", x.work(how, 1, 1), -1);
        }
        for (int bad : new int[] {-1, 9, LEAST, MOST}) {
            for (int how = 0; how < 4; how++) {
                due("work with " + bad, x.work(how, bad, 1), -1);
                due("work with " + bad, x.work(how, 1, bad), -1);
            }
        }
    }

    private static void poly() {
        PowersForTimes x = at(5, 5, 5);
        int end = 1220703125;
        due("last + last", x.poly(0, end - 1, end - 1), (int) ((end - 1) / 4L * 3));
        due("0 - last", x.poly(1, 0, end - 1), (end - 1) / 4);
        due("x^6 x^6", x.poly(2, 15625, 15625), 244140625);
        due("x^6 x^7", x.poly(2, 15625, 78125), -1);
        due("x^12 4", x.poly(2, 244140625, 4), 976562500);
        due("x^12 x", x.poly(2, 244140625, 5), -1);
        due("x^12 0", x.poly(2, 244140625, 0), 0);
        due("(x+1)(x+4)", x.poly(2, 6, 9), 29);
        due("29 leaves by 6", x.poly(3, 29, 6), 0);
        due("29 by 6", x.poly(4, 29, 6), 9);
        due("30 leaves by 2 x", x.poly(3, 31, 10), 1);
        due("30 by 2 x", x.poly(4, 31, 10), 18);
        due("3 by 4 leaves", x.poly(3, 3, 4), 0);
        due("x by x^2", x.poly(4, 5, 25), 0);
        due("x leaves by x^2", x.poly(3, 5, 25), 5);
        due("common of 2 x and 3 x^2", x.poly(5, 10, 75), 5);
        due("common of 0 and 3 x", x.poly(5, 0, 15), 5);
        due("common of 3 x and 0", x.poly(5, 15, 0), 5);
        due("common of 0, 0", x.poly(5, 0, 0), 0);
        due("common of 3, 0", x.poly(5, 3, 0), 1);
        due("common of x, x + 1", x.poly(5, 5, 6), 1);
        due("by 0", x.poly(3, 5, 0), -1);
        due("by 0", x.poly(4, 5, 0), -1);
        for (int bad : new int[] {-1, end, LEAST, MOST}) {
            for (int how = 0; how < 6; how++) {
                due("poly with " + bad, x.poly(how, bad, 1), -1);
                due("poly with " + bad, x.poly(how, 1, bad), -1);
            }
        }
        due("how -1", x.poly(-1, 1, 1), -1);
        due("how 6", x.poly(6, 1, 1), -1);
        x.world(2, 2);
        due("8191 + 0", x.poly(0, 8191, 0), 8191);
        due("8192 + 0", x.poly(0, 8192, 0), -1);
    }

    private static void module() {
        PowersForTimes x = at(2, 7, 4);
        due("no degree", x.module(3, 0, 0, 0), -1);
        for (int bad : new int[] {-1, 4, LEAST, MOST}) {
            due("module", x.module(bad, 1, 1, 1), -1);
            due("module", x.module(1, bad, 1, 1), -1);
            due("module", x.module(1, 1, bad, 1), -1);
            due("module", x.module(1, 1, 1, bad), -1);
        }
        for (int i = 0; i < 10; i++) {
            due("module " + i, x.module(0, 0, 0, 1), i);
        }
        due("an 11th", x.module(1, 1, 1, 1), -1);
        due("modules", x.count(4), 10);
        due("undo", x.undo(), 9);
        due("a 10th again", x.module(1, 1, 1, 1), 9);
    }

    private static void map() {
        PowersForTimes x = at(2, 7, 4);
        due("0", x.map(0, 0, 0), -1);
        for (int bad : new int[] {-1, 4, LEAST, MOST}) {
            due("map", x.map(bad, 1, 1), -1);
            due("map", x.map(1, bad, 1), -1);
            due("map", x.map(1, 1, bad), -1);
        }
        for (int i = 0; i < 10; i++) {
            due("map " + i, x.map(i == 0 ? 3 : 0, 0, i == 0 ? 0 : 1), i);
        }
        due("an 11th", x.map(1, 1, 1), -1);
        due("maps", x.count(5), 10);
        due("a module has place", x.module(0, 1, 0, 0), 0);
        due("made has none", x.made(0, 1), -1);
        due("degree 0", x.of(true, 0, -1), 0);
    }

    private static void of() {
        PowersForTimes x = at(2, 7, 4);
        x.module(3, 2, 0, 1);
        x.module(3, 2, 0, 0);
        x.map(0, 3, 0);
        int[][] want = {{0, 3}, {1, 1}};
        for (int[] w : want) {
            due("degree", x.of(false, w[0], -1), w[1]);
        }
        due("of 0", x.of(false, 0, 0), 3);
        due("of 3", x.of(false, 0, 3), 1);
        due("of 4", x.of(false, 0, 4), 0);
        due("of most", x.of(false, 0, MOST), 0);
        due("of 2 above", x.of(false, 1, 2), 0);
        due("map degree", x.of(true, 0, -1), 1);
        due("map 0", x.of(true, 0, 0), 0);
        due("map 1", x.of(true, 0, 1), 3);
        due("map 8", x.of(true, 0, 8), 0);
        due("what -2", x.of(false, 0, -2), -1);
        due("what least", x.of(true, 0, LEAST), -1);
        for (int bad : new int[] {-1, 2, 10, LEAST, MOST}) {
            due("module " + bad, x.of(false, bad, 0), -1);
            due("map " + bad, x.of(true, bad, -1), -1);
        }
        due("map 1", x.of(true, 1, 0), -1);
        x.undo();
        due("an undone map", x.of(true, 0, 0), -1);
    }

    private static void act() {
        PowersForTimes x = at(2, 7, 4);
        x.module(2, 1, 0, 0);
        x.module(2, 1, 1, 1);
        // T 1 = 2 + 1, T T 1 = T 3 = 2 3 + 3^2 = 1 + 2
        due("T^2 1", x.act(0, 4, 1), 3);
        due("T^2 + T 1", x.act(0, 6, 1), 0);
        due("0 1", x.act(0, 0, 1), 0);
        due("1 3", x.act(0, 1, 3), 3);
        due("T 0", x.act(0, 2, 0), 0);
        // of degree 36, too: T 1 = 2 + 1 + 1 + 1 = 3, T 3 = 2 3 + 2 + 3 + 2 = 2, T 2 = 3 + 3 + 2 + 3 = 1
        due("T^12 1", x.act(1, 4096, 1), 1);
        due("T^11 1", x.act(1, 2048, 1), 2);
        wrongs(x);
    }

    private static void wrongs(PowersForTimes x) {
        for (int bad : new int[] {-1, 2, 10, LEAST, MOST}) {
            due("act", x.act(bad, 1, 1), -1);
            due("acts", x.acts(bad, 1, 0), -1);
            due("noughts", x.noughts(bad, 1, -1), -1);
            due("about", x.about(bad, 0), -1);
            due("parts", x.parts(bad, -1), -1);
            due("great", x.great(bad, 0), -1);
            due("made", x.made(bad, 0), -1);
            due("ends", x.ends(bad, 0), -1);
            due("alike", x.alike(bad, 0), -1);
            due("alike", x.alike(0, bad), -1);
            due("send", x.send(bad, 0), -1);
            due("leads", x.leads(bad, 0, 0), -1);
            due("leads", x.leads(0, bad, 0), -1);
            due("dual", x.dual(bad, 0, -1), -1);
            due("dual", x.dual(0, bad, -1), -1);
        }
        for (int bad : new int[] {-1, 8192, LEAST, MOST}) {
            due("act", x.act(0, bad, 1), -1);
            due("acts", x.acts(0, bad, 0), -1);
            due("noughts", x.noughts(0, bad, -1), -1);
        }
        for (int bad : new int[] {-1, 4, LEAST, MOST}) {
            due("act", x.act(0, 1, bad), -1);
            due("made", x.made(0, bad), -1);
            due("classes", x.classes(bad, 1), -1);
            due("greatest", x.greatest(bad), -1);
        }
        for (int bad : new int[] {-2, LEAST}) {
            due("noughts", x.noughts(0, 1, bad), -1);
            due("parts", x.parts(0, bad), -1);
            due("factors", x.factors(6, bad), -1);
        }
        for (int bad : new int[] {-1, 3, LEAST, MOST}) {
            due("about", x.about(0, bad), -1);
            due("ends", x.ends(0, bad), -1);
        }
        due("noughts, most", x.noughts(0, 0, MOST), -1);
        due("parts, most", x.parts(0, MOST), -1);
        due("factors, most", x.factors(6, MOST), -1);
        due("no map was made", x.count(5), 0);
    }

    private static void acts() {
        PowersForTimes x = at(2, 7, 4);
        x.module(2, 1, 0, 0);
        x.module(0, 0, 1, 0);
        x.module(0, 0, 0, 1);
        // (2 + t)(2 + t) = 3 + (2 + 3) t + t^2
        int[] want = {3, 1, 1, 0};
        for (int i = 0; i < 4; i++) {
            due("acts " + i, x.acts(0, 4, i), want[i]);
        }
        due("T^12 24", x.acts(1, 4096, 24), 1);
        due("T^12 23", x.acts(1, 4096, 23), 0);
        due("T^8 24", x.acts(2, 256, 24), 1);
        due("T^8 + 1", x.acts(2, 257, 0), 1);
        due("T^9", x.acts(2, 512, 0), -1);
        due("T^9 24", x.acts(2, 512, 24), -1);
        due("0", x.acts(2, 0, 0), 0);
        due("i -1", x.acts(0, 4, -1), -1);
        due("i 25", x.acts(0, 4, 25), -1);
        due("i least", x.acts(0, 4, LEAST), -1);
        due("i 24", x.acts(0, 4, 24), 0);
    }

    private static void sendAndNoughts() {
        PowersForTimes x = at(2, 7, 4);
        x.map(2, 1, 0);
        x.map(0, 0, 1);
        x.module(2, 1, 0, 0);
        due("send 1", x.send(0, 1), 3);
        due("send 2", x.send(0, 2), 0);
        due("send 0", x.send(0, 0), 0);
        due("t^2 3", x.send(1, 3), 3);
        for (int bad : new int[] {-1, 4, LEAST, MOST}) {
            due("send " + bad, x.send(0, bad), -1);
            due("map " + bad, x.send(bad, 0), -1);
        }
        due("noughts of T", x.noughts(0, 2, -1), 2);
        due("0th", x.noughts(0, 2, 0), 0);
        due("1st", x.noughts(0, 2, 1), 2);
        due("2nd", x.noughts(0, 2, 2), -1);
        due("noughts of 0", x.noughts(0, 0, -1), 4);
        due("3rd", x.noughts(0, 0, 3), 3);
        due("4th", x.noughts(0, 0, 4), -1);
        due("noughts of 1", x.noughts(0, 1, -1), 1);
        due("0th", x.noughts(0, 1, 0), 0);
        due("1st", x.noughts(0, 1, 1), -1);
    }

    private static void about() {
        PowersForTimes x = at(2, 19, 16);
        x.module(0, 1, 0, 0);
        x.module(1, 0, 1, 0);
        x.module(6, 1, 1, 0);
        x.module(2, 0, 0, 1);
        x.module(0, 0, 0, 1);
        due("characteristic of 0", x.about(0, 0), 2);
        due("characteristic of 1", x.about(1, 0), 3);
        due("characteristic of 6", x.about(2, 0), 7);
        due("characteristic of x", x.about(3, 0), 19);
        due("height", x.about(0, 1), 1);
        due("height of 1 + t^2", x.about(1, 1), 2);
        due("height of t^3", x.about(4, 1), 3);
        // t is turning: T^4 - 1 sends all to 0 and nothing less does
        due("points of t", x.about(0, 2), 17);
        // T = 1 + t^2: (T - 1)^2 = 1 on all, twice
        due("points of 1 + t^2", x.about(1, 2), 16);
        due("points of t^3", x.about(4, 2), 17);
    }

    private static void parts() {
        PowersForTimes x = at(2, 19, 16);
        x.module(0, 1, 0, 0);
        x.module(1, 0, 1, 0);
        due("t: one part", x.parts(0, -1), 1);
        due("T^4 + 1", x.parts(0, 0), 17);
        due("none more", x.parts(0, 1), -1);
        due("1 + t^2: two", x.parts(1, -1), 2);
        due("T^2", x.parts(1, 0), 4);
        due("T^2", x.parts(1, 1), 4);
        due("none more", x.parts(1, 2), -1);
        x = at(5, 27, 25);
        // t^2 does nothing: T is 1 + 1
        x.module(1, 0, 1, 0);
        due("two", x.parts(0, -1), 2);
        due("T - 2", x.parts(0, 0), 8);
        due("T - 2", x.parts(0, 1), 8);
        x = at(2, 2, 2);
        x.module(1, 1, 0, 0);
        due("one", x.parts(0, -1), 1);
        due("T", x.parts(0, 0), 2);
    }

    private static void great() {
        PowersForTimes x = at(3, 10, 9);
        x.module(3, 0, 1, 0);
        x.module(3, 1, 0, 0);
        x.module(3, 1, 1, 1);
        // d 2: all rests but 0 to the power of 4 are e's other side
        x.module(3, 1, 4, 0);
        due("trace", x.great(0, 0), 6);
        due("norm", x.great(0, 1), 10);
        due("of rank 1", x.great(1, 0), -1);
        due("of rank 1", x.great(1, 1), -1);
        due("of rank 3", x.great(2, 0), -1);
        // 4^4 = (x + 1)^4 = (2 x)^2 = -4 = 2: e is 2, 2 (T^2 + 1)
        due("norm", x.great(3, 1), 20);
        due("what -1", x.great(0, -1), -1);
        due("what 2", x.great(0, 2), -1);
        x = at(5, 5, 5);
        // F = t: t t - a t + b is 0, with b = -1/2 T = 2 T: 4 t^2 + 2 t, so a = 2
        x.module(0, 1, 2, 0);
        due("norm", x.great(0, 1), 10);
        due("trace", x.great(0, 0), 2);
    }

    private static void leads() {
        PowersForTimes x = at(2, 7, 4);
        x.module(2, 1, 1, 0);
        x.map(0, 1, 0);
        x.map(1, 1, 0);
        x.map(2, 0, 0);
        int[] byT = {3, 1, 1, 0};
        // 2 (2 + t + t^2) = V 2: 2 + 2/3 t + 2/2 t^2
        int[] by2 = {2, 3, 1, 0};
        for (int i = 0; i < 4; i++) {
            due("t leads " + i, x.leads(0, 0, i), byT[i]);
            due("2 leads " + i, x.leads(2, 0, i), by2[i]);
            due("1 + t leads " + i, x.leads(1, 0, i), -1);
        }
        due("i -1", x.leads(0, 0, -1), -1);
        due("i 4", x.leads(0, 0, 4), -1);
        due("i most", x.leads(0, 0, MOST), -1);
        due("map 3", x.leads(3, 0, 0), -1);
        due("module 1", x.leads(0, 1, 0), -1);
    }

    private static void dual() {
        PowersForTimes x = at(2, 7, 4);
        x.module(2, 1, 1, 0);
        x.map(2, 0, 0);
        x.map(1, 1, 0);
        x.map(0, 1, 0);
        due("of 2: 1", x.dual(0, 0, -1), 1);
        due("w = 3", x.dual(0, 0, 0), 3);
        due("w", x.dual(0, 0, 1), 0);
        due("w", x.dual(0, 0, 24), 0);
        due("i 25", x.dual(0, 0, 25), -1);
        due("i -2", x.dual(0, 0, -2), -1);
        // 1 + t divides T^2 + T, but it is no map of the module
        due("no map", x.dual(1, 0, -1), -1);
        due("no map", x.dual(1, 0, 0), -1);
        due("t: the characteristic", x.dual(2, 0, -1), 7);
        due("its w", x.dual(2, 0, 0), 0);
        due("its w", x.dual(2, 0, 1), 0);
        due("its w", x.dual(2, 0, 2), 0);
        due("its w", x.dual(2, 0, 3), x.acts(0, 7, 4));
        x = at(2, 37, 32);
        x.module(2, 1, 0, 0);
        x.map(0, 1, 0);
        x.made(0, 1);
        due("a characteristic of degree 5", x.about(0, 0), 37);
        due("t has no dual", x.dual(0, 0, -1), -1);
        due("t has no dual", x.dual(0, 0, 3), -1);
        due("it leads", x.leads(0, 0, 0), 4);
    }

    private static void made() {
        PowersForTimes x = at(2, 7, 4);
        x.module(2, 1, 1, 0);
        due("of 3", x.made(0, 3), 0);
        due("degree", x.of(true, 0, -1), 1);
        due("3 + t", x.of(true, 0, 0), 3);
        due("1", x.of(true, 0, 1), 1);
        due("of 0", x.made(0, 0), 1);
        due("1", x.of(true, 1, 0), 1);
        due("degree", x.of(true, 1, -1), 0);
        // 1 goes to 2, 2 to 2: all rests, x^4 - x
        due("of 1", x.made(0, 1), 2);
        due("degree", x.of(true, 2, -1), 2);
        due("1 + t^2", x.of(true, 2, 0), 1);
        due("0 t", x.of(true, 2, 1), 0);
        due("steps", x.count(7), 4);
        due("undo", x.undo(), 3);
        due("maps", x.count(5), 2);
        due("redo", x.redo(), 4);
        due("degree", x.of(true, 2, -1), 2);
    }

    private static void ends() {
        PowersForTimes x = at(2, 7, 4);
        x.module(2, 1, 0, 0);
        x.module(0, 0, 1, 0);
        // 0, 1 and G + those
        due("ends 0", x.ends(0, 0), 2);
        due("ends 1", x.ends(0, 1), 4);
        due("ends 2", x.ends(0, 2), 8);
        // t^2 goes with all
        due("ends of t^2, 0", x.ends(1, 0), 4);
        due("ends of t^2, 1", x.ends(1, 1), 16);
        due("ends of t^2, 2", x.ends(1, 2), 64);
        x = at(2, 131, 128);
        x.module(0, 1, 0, 0);
        due("ends of t, 2", x.ends(0, 2), 8);
        x.world(5, 131);
        x.module(0, 0, 0, 1);
        due("all go with t^d", x.ends(0, 2), 1953125);
    }

    private static void alike() {
        PowersForTimes x = at(2, 7, 4);
        x.module(2, 1, 0, 0);
        x.module(2, 3, 0, 0);
        x.module(3, 1, 0, 0);
        x.module(2, 0, 1, 0);
        x.module(2, 0, 2, 0);
        due("itself", x.alike(0, 0), 1);
        due("0 1", x.alike(0, 1), 2);
        due("1 0", x.alike(1, 0), 3);
        due("another g0", x.alike(0, 2), -1);
        due("another rank", x.alike(0, 3), -1);
        due("another rank", x.alike(3, 0), -1);
        due("c^3 is 1", x.alike(3, 4), -1);
        due("5", x.alike(0, 5), -1);
        due("5", x.alike(5, 0), -1);
    }

    private static void classes() {
        PowersForTimes x = at(2, 7, 4);
        due("1", x.classes(2, 1), 1);
        due("2", x.classes(0, 2), 6);
        due("3", x.classes(3, 3), 16);
        due("0", x.classes(2, 0), -1);
        due("4", x.classes(2, 4), -1);
        due("least", x.classes(2, LEAST), -1);
        x.world(2, 2);
        due("all", x.classes(0, 3), 4);
        x.world(2, 131);
        // no c but 1 keeps any: 128 128 127 by 127
        due("3", x.classes(127, 3), 16384);
        x.world(5, 7);
        // all c keep all that have degree 1: 4; c^24 = (c^4)^6
        due("1", x.classes(1, 1), 4);
        due("2", x.classes(1, 2), 20);
        due("3", x.classes(1, 3), 100);
    }

    private static void greatest() {
        PowersForTimes x = at(2, 7, 4);
        due("x", x.greatest(2), 1);
        // g0 a figure: g1 is 0, and all g2 are left, by c^3 = 1
        due("0", x.greatest(0), 3);
        due("1", x.greatest(1), 3);
        due("4", x.greatest(4), -1);
        due("-1", x.greatest(-1), -1);
        x.world(5, 5);
        // g1 0, c^24 = 1
        due("0 of 5", x.greatest(0), 4);
        due("4 of 5", x.greatest(4), 4);
        due("5 of 5", x.greatest(5), -1);
    }

    private static void sums() {
        PowersForTimes x = at(3, 10, 9);
        // x^2 + (x + 1)^2 + (x + 2)^2 = 3 x^2 + 6 x + 5
        due("2 1", x.sums(2, 1), 2);
        due("1 1", x.sums(1, 1), 0);
        due("6 2", x.sums(6, 2), 0);
        int[][] wrong = {{0, 1}, {13, 1}, {1, 0}, {1, 5}, {7, 2}, {5, 3}, {4, 4}, {-1, 1}, {1, -1}, {LEAST, LEAST}, {MOST, MOST},
            {65536, 65536}};
        for (int[] w : wrong) {
            due("sums " + w[0] + " " + w[1], x.sums(w[0], w[1]), -1);
        }
        // x^4 + (x + 1)^4 + (x + 2)^4: 4 x^3 (0 + 1 + 2), 6 x^2 (..), 4 x (0 + 1 + 8), 17
        due("4 1", x.sums(4, 1), 2);
        due("3 4", x.sums(3, 4), 0);
        due("4 3", x.sums(4, 3), 0);
        x.world(2, 2);
        // x^3 + (x + 1)^3 = x^2 + x + 1
        due("3 1 by 2", x.sums(3, 1), 7);
    }

    private static void symbol() {
        PowersForTimes x = at(3, 10, 9);
        due("4 over 10", x.symbol(4, 10), 2);
        due("3 over 10", x.symbol(3, 10), 1);
        due("0 over 10", x.symbol(0, 10), 0);
        due("10 over 10", x.symbol(10, 10), 0);
        due("2 over 10", x.symbol(2, 10), 1);
        due("2 over x", x.symbol(2, 3), 2);
        // over a square: 2 2
        due("2 over x^2", x.symbol(2, 9), 1);
        due("x over x (x^2 + 1)", x.symbol(3, 30), 0);
        due("not monic", x.symbol(4, 20), -1);
        due("of degree 0", x.symbol(4, 1), -1);
        due("over 0", x.symbol(4, 0), -1);
        due("of degree 6", x.symbol(2, 729), 1);
        due("of degree 7", x.symbol(2, 2187), -1);
        due("last", x.symbol(1594322, 3), 2);
        due("above", x.symbol(1594323, 3), -1);
        due("below", x.symbol(-1, 3), -1);
        due("below", x.symbol(1, -3), -1);
        due("least", x.symbol(1, LEAST), -1);
        due("most", x.symbol(MOST, MOST), -1);
    }

    private static void factors() {
        PowersForTimes x = at(5, 5, 5);
        // 3 x^12
        due("3 x^12", x.factors(732421875, -1), 12);
        due("0th", x.factors(732421875, 0), 5);
        due("11th", x.factors(732421875, 11), 5);
        due("12th", x.factors(732421875, 12), -1);
        due("4", x.factors(4, -1), 0);
        due("4", x.factors(4, 0), -1);
        due("0", x.factors(0, -1), -1);
        due("0", x.factors(0, 0), -1);
        // x^4 - 1
        int[] want = {6, 7, 8, 9};
        for (int i = 0; i < 4; i++) {
            due("x^4 - 1: " + i, x.factors(629, i), want[i]);
        }
        due("x^4 - 1", x.factors(629, 4), -1);
        due("2 x + 2", x.factors(12, 0), 6);
        due("-1", x.factors(-1, -1), -1);
        due("above", x.factors(1220703125, -1), -1);
        due("most", x.factors(MOST, -1), -1);
        x.world(2, 2);
        // (x^6 + x + 1)^2
        due("a square", x.factors(4101, -1), 2);
        due("a square", x.factors(4101, 1), 67);
    }

    private static void steps() {
        PowersForTimes x = at(2, 7, 4);
        due("module", x.module(2, 1, 0, 0), 0);
        due("map", x.map(1, 0, 0), 0);
        due("made", x.made(0, 1), 1);
        due("undo", x.undo(), 2);
        due("undo", x.undo(), 1);
        due("undo", x.undo(), 0);
        due("undo", x.undo(), -1);
        due("undone", x.count(8), 3);
        due("modules", x.count(4), 0);
        due("a wrong one is not told", x.module(2, 0, 0, 0), -1);
        due("redo", x.redo(), 1);
        due("redo", x.redo(), 2);
        due("map", x.of(true, 0, 0), 1);
        due("redo", x.redo(), 3);
        due("redo", x.redo(), -1);
        due("what was made", x.of(true, 1, -1), x.noughts(0, 0, -1) == 4 ? 2 : 0);
        due("undo", x.undo(), 2);
        due("another", x.module(3, 1, 0, 0), 1);
        due("undone", x.count(8), 0);
        due("redo", x.redo(), -1);
        due("steps", x.count(7), 3);
    }

    private static void image() {
        PowersForTimes x = at(2, 7, 4);
        x.module(2, 1, 0, 0);
        x.map(3, 0, 0);
        x.map(2, 0, 0);
        x.undo();
        due("image", x.image(), 2);
        due("undo", x.undo(), 1);
        due("map", x.map(1, 1, 1), 0);
        due("world", x.world(5, 131), 125);
        due("module", x.module(124, 124, 124, 124), 0);
        due("back", x.back(), 2);
        int[] want = {2, 7, 2, 4, 1, 1, 0, 2, 1, 0};
        for (int i = 0; i < want.length; i++) {
            due("count(" + i + ")", x.count(i), want[i]);
        }
        due("work", x.work(2, 2, 2), 3);
        due("work", x.work(2, 4, 2), -1);
        due("module", x.of(false, 0, 0), 2);
        due("map", x.of(true, 0, 0), 3);
        due("redo", x.redo(), 3);
        due("map", x.of(true, 1, 0), 2);
        due("back", x.back(), 2);
        due("it stays", x.count(8), 1);
        due("map", x.map(1, 0, 0), 1);
        due("image again", x.image(), 3);
        due("world", x.world(2, 2), 2);
        due("back", x.back(), 3);
        due("map", x.of(true, 1, 0), 1);
    }

    private static void imageOfTexts() {
        PowersForTimes x = at(3, 10, 9);
        Due.put(x, "map 5;");
        due("text", x.text(), 0);
        due("image", x.image(), 0);
        Due.put(x, "map 7;");
        due("text", x.text(), 1);
        Due.put(x, "map ^");
        due("text", x.text(), -1);
        Due.put(x, "map");
        due("back", x.back(), 0);
        due("texts", x.count(6), 1);
        due("the tape is not", x.count(9), 3);
        due("nor is the fault", x.fault(0), 1);
        due("nor is the fault", x.fault(1), 4);
        due("told(1)", x.told(1), -2);
        due("told(0)", x.told(0), -1);
        due("map", x.of(true, 0, 0), 5);
        Due.put(x, "map 8;");
        due("text", x.text(), 1);
        due("told(1)", x.told(1), -1);
        due("map", x.of(true, 1, 0), 8);
        due("back", x.back(), 0);
        due("texts", x.count(6), 1);
    }
}
