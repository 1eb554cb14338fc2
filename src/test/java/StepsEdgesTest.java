/** Each sentence on a new object, worlds, what is told, steps, images and counts, at the edges that it names. */
public final class StepsEdgesTest {
    private static final int LEAST = Edges.LEAST;
    private static final int MOST = Edges.MOST;
    private static final int NONE = -1;

    public static void main(String[] args) {
        Edges.run(StepsEdgesTest.class);
    }

    private static void due(String call, int got, int want) {
        Due.due(call, got, want);
    }

    /** What count answers from 0 on. */
    private static void counts(String name, PowersForTimes x, int... want) {
        for (int i = 0; i < want.length; i++) {
            due(name + " count(" + i + ")", x.count(i), want[i]);
        }
    }

    // ---- a new object, and worlds

    @Says(at = "Promise 1", value = "THE WORLD q 2, M 2 (d 1);")
    static void p01NewObject() {
        PowersForTimes x = new PowersForTimes();
        counts("new", x, 2, 2, 1, 2, 0, 0, 0, 0, 0, 0);
        due("1 + 1", x.work(0, 1, 1), 0);
        due("1 1", x.work(2, 1, 1), 1);
        due("2 is no rest", x.work(0, 2, 0), NONE);
        due("8191 is a polynomial", x.poly(0, 8191, 0), 8191);
        due("8192 is none", x.poly(0, 8192, 0), NONE);
        due("no module", x.of(false, 0, -1), NONE);
        due("no map", x.of(true, 0, -1), NONE);
        due("no text", x.told(0), -2);
        due("no fault", x.fault(0), NONE);
        due("nothing to undo", x.undo(), NONE);
        due("nothing to redo", x.redo(), NONE);
        due("a module", x.module(1, 1, 1, 1), 0);
        due("a map", x.map(1, 1, 1), 0);
        due("the same world once more", new PowersForTimes().world(2, 2), 2);
    }

    @Says(at = "Promise 1", value = "THE IMAGE is this.")
    static void p01NewObjectIsTheImage() {
        PowersForTimes x = new PowersForTimes();
        due("back at once", x.back(), 0);
        counts("back at once", x, 2, 2, 1, 2, 0, 0, 0, 0, 0, 0);
        due("world", x.world(5, 131), 125);
        due("text", Edges.read(x, "map 9999;"), 0);
        x.module(124, 1, 2, 3);
        x.map(1, 2, 3);
        x.undo();
        Due.put(x, "map 1;");
        due("back", x.back(), 0);
        counts("back", x, 2, 2, 1, 2, 0, 0, 0, 0, 0, 6);
        due("no text", x.told(0), -2);
        due("nothing undone", x.redo(), NONE);
        due("1 + 1", x.work(0, 1, 1), 0);
        due("the tape's text has number 0", x.text(), 0);
    }

    @Says(at = "Promise 2", value = "A WORLD: N; without MODULES, MAPS, STEPS (TEXTS stay).")
    static void p02World() {
        PowersForTimes x = Made.RICH.make();
        due("steps", x.count(7), 5);
        due("undone", x.count(8), 2);
        due("world", x.world(2, 131), 128);
        counts("a new world", x, 2, 131, 7, 128, 0, 0, 2, 0, 0, 21);
        due("the latest fault stays", x.fault(0), 2);
        due("its place stays", x.fault(1), 8);
        due("nothing to undo", x.undo(), NONE);
        due("nothing to redo", x.redo(), NONE);
        due("module 0", x.of(false, 0, 0), NONE);
        due("map 0", x.of(true, 0, 0), NONE);
        due("a text stays", x.told(0), NONE);
        Edges.row(x, true, 0, 5);
        due("a text stays", x.told(1), NONE);
        Edges.row(x, false, 0, 3, 1);
        Edges.row(x, true, 1, 1, 0, 1);
        due("the tape stays", x.text(), 2);
        due("told", x.told(2), NONE);
        Edges.row(x, true, 2, 0, 4);
        // the image stays, in its own world
        due("back", x.back(), 2);
        counts("the image's world", x, 2, 11, 3, 8, 1, 1, 1, 2, 1, 0);
        // the same world once more: without what was in it, too
        due("the same world", x.world(2, 11), 8);
        counts("the same world", x, 2, 11, 3, 8, 0, 0, 1, 0, 0, 0);
        due("redo", x.redo(), NONE);
        for (int[] w : Edges.WORLDS) {
            due("world(" + w[0] + ", " + w[1] + ")", x.world(w[0], w[1]), w[2]);
        }
        x = Made.FULL_OF_BOTH.make();
        x.world(3, 3);
        for (int i = 0; i < 10; i++) {
            due("room for modules again", x.module(0, 1, 0, 0), i);
            due("room for maps again", x.map(2, 0, 0), i);
        }
    }

    @Says(at = "Promise 2", value = "NONE, changing nothing, for others.")
    static void p02WorldOfOthers() {
        int[][] others = {{2, 0}, {2, 1}, {2, 4}, {2, 5}, {2, 6}, {2, 256}, {2, 283}, {2, -2}, {2, LEAST}, {2, MOST}, {3, 1}, {3, 2},
            {3, 6}, {3, 9}, {3, 250}, {3, 1594323}, {5, 10}, {5, 25}, {5, 627}, {5, 1220703125}, {4, 5}, {4, 7}, {6, 7}, {7, 7}, {1, 1},
            {1, 2}, {0, 2}, {-2, 2}, {-3, 3}, {LEAST, LEAST}, {MOST, MOST}};
        for (int[] w : others) {
            Edges.refused("world(" + w[0] + ", " + w[1] + ")", NONE, x -> x.world(w[0], w[1]), Made.NEW, Made.RICH);
        }
        Edges.refused("world(5, 25)", NONE, x -> x.world(5, 25), Made.values());
        Edges.refused("world(7, 7)", NONE, x -> x.world(7, 7), Made.values());
        // after one that is none, all is reckoned in the world that was
        PowersForTimes x = Edges.at(3, 10);
        x.module(3, 1, 1, 0);
        for (int q : new int[] {2, 5}) {
            due("none", x.world(q, q * q), NONE);
            due("5 + 7", x.work(0, 5, 7), 0);
            due("x x", x.work(2, 3, 3), 2);
            due("5 + 7", x.poly(0, 5, 7), 0);
            due("T T", x.poly(2, 3, 3), 9);
            due("T^12", x.poly(2, 729, 729), 531441);
            due("characteristic", x.about(0, 0), 10);
            due("T^2 + T + 1 over 3", x.sums(3, 1), 0);
        }
    }

    // ---- modules, maps, and what is made

    @Says(at = "Promise 5", value = "A MODULE: its number.")
    static void p05Module() {
        PowersForTimes x = Edges.at(3, 10);
        due("the first", x.module(8, 8, 8, 8), 0);
        due("the second", x.module(0, 0, 0, 1), 1);
        due("the same again", x.module(0, 0, 0, 1), 2);
        due("maps have numbers of their own", x.map(1, 0, 0), 0);
        due("the fourth", x.module(0, 1, 0, 0), 3);
        Edges.row(x, false, 0, 8, 8, 8, 8);
        Edges.row(x, false, 1, 0, 0, 0, 1);
        Edges.row(x, false, 3, 0, 1);
        due("undo", x.undo(), 4);
        due("its number is free again", x.module(2, 2, 0, 0), 3);
        Edges.row(x, false, 3, 2, 2);
    }

    @Says(at = "Promise 5", value = "NONE for others (g1 to g3 all 0), or if there are 10.")
    static void p05ModuleOfOthers() {
        PowersForTimes x = Edges.at(3, 10);
        for (int g0 = 0; g0 < 9; g0++) {
            due("g1 to g3 all 0", x.module(g0, 0, 0, 0), NONE);
        }
        due("g1 alone", x.module(0, 1, 0, 0), 0);
        due("g2 alone", x.module(0, 0, 1, 0), 1);
        due("g3 alone", x.module(0, 0, 0, 1), 2);
        for (int i = 3; i < 10; i++) {
            due("up to 10", x.module(0, 8, 0, 0), i);
        }
        due("a 10th is there", x.of(false, 9, 1), 8);
        due("an 11th", x.module(0, 8, 0, 0), NONE);
        due("modules", x.count(4), 10);
        due("steps", x.count(7), 10);
        due("a map has room", x.map(1, 0, 0), 0);
        due("undo the map", x.undo(), 10);
        due("still an 11th", x.module(0, 8, 0, 0), NONE);
        due("the map is not lost by it", x.redo(), 11);
        x.undo();
        due("undo", x.undo(), 9);
        due("a 10th again", x.module(5, 5, 0, 0), 9);
        for (int bad : new int[] {-1, 9, LEAST, MOST}) {
            Edges.refused("g0 " + bad, NONE, y -> y.module(bad, 1, 0, 0), Made.RICH);
            Edges.refused("g1 " + bad, NONE, y -> y.module(0, bad, 1, 0), Made.RICH);
            Edges.refused("g2 " + bad, NONE, y -> y.module(0, 1, bad, 0), Made.RICH);
            Edges.refused("g3 " + bad, NONE, y -> y.module(0, 1, 0, bad), Made.RICH);
        }
        Edges.refused("g1 to g3 all 0", NONE, y -> y.module(1, 0, 0, 0), Made.values());
        Edges.refused("an 11th", NONE, y -> y.module(3, 1, 2, 3), Made.FULL_OF_MODULES, Made.FULL_OF_BOTH);
    }

    @Says(at = "Promise 6", value = "A MAP c0 + c1 t + c2 t^2: its number.")
    static void p06Map() {
        PowersForTimes x = Edges.at(3, 10);
        due("the first", x.map(8, 7, 6), 0);
        due("the second", x.map(0, 0, 1), 1);
        due("the same again", x.map(0, 0, 1), 2);
        due("modules have numbers of their own", x.module(1, 1, 0, 0), 0);
        due("the fourth", x.map(4, 0, 0), 3);
        Edges.row(x, true, 0, 8, 7, 6);
        Edges.row(x, true, 1, 0, 0, 1);
        Edges.row(x, true, 3, 4);
        due("undo", x.undo(), 4);
        due("its number is free again", x.map(0, 5, 0), 3);
        Edges.row(x, true, 3, 0, 5);
    }

    @Says(at = "Promise 6", value = "NONE for others, or if there are 10.")
    static void p06MapOfOthers() {
        PowersForTimes x = Edges.at(3, 10);
        due("0", x.map(0, 0, 0), NONE);
        due("c0 alone", x.map(1, 0, 0), 0);
        due("c1 alone", x.map(0, 1, 0), 1);
        due("c2 alone", x.map(0, 0, 1), 2);
        for (int i = 3; i < 10; i++) {
            due("up to 10", x.map(0, 8, 0), i);
        }
        due("a 10th is there", x.of(true, 9, 1), 8);
        due("an 11th", x.map(0, 8, 0), NONE);
        due("maps", x.count(5), 10);
        due("steps", x.count(7), 10);
        due("a module has room", x.module(1, 1, 0, 0), 0);
        due("undo the module", x.undo(), 10);
        due("still an 11th", x.map(0, 8, 0), NONE);
        due("the module is not lost by it", x.redo(), 11);
        x.undo();
        due("undo", x.undo(), 9);
        due("a 10th again", x.map(5, 5, 0), 9);
        for (int bad : new int[] {-1, 9, LEAST, MOST}) {
            Edges.refused("c0 " + bad, NONE, y -> y.map(bad, 1, 0), Made.RICH);
            Edges.refused("c1 " + bad, NONE, y -> y.map(0, bad, 1), Made.RICH);
            Edges.refused("c2 " + bad, NONE, y -> y.map(1, 1, bad), Made.RICH);
        }
        Edges.refused("0", NONE, y -> y.map(0, 0, 0), Made.values());
        Edges.refused("an 11th", NONE, y -> y.map(3, 1, 2), Made.FULL_OF_MAPS, Made.FULL_OF_BOTH);
    }

    // ---- steps

    @Says(at = "IV", value = "STEPS: each MODULE and MAP that is told (also by a TEXT, or MADE) is one, by its turn.")
    static void ivSteps() {
        PowersForTimes x = Edges.at(2, 7);
        due("text", Edges.read(x, "module 2+t;map 3;"), 0);
        due("module", x.module(2, 1, 1, 0), 0);
        counts("a module", x, 2, 7, 2, 4, 1, 0, 1, 1, 0);
        due("map", x.map(2, 0, 0), 0);
        counts("a map", x, 2, 7, 2, 4, 1, 1, 1, 2, 0);
        due("made", x.made(0, 3), 1);
        counts("what is made", x, 2, 7, 2, 4, 1, 2, 1, 3, 0);
        due("told", x.told(0), NONE);
        counts("each clause", x, 2, 7, 2, 4, 2, 3, 1, 5, 0);
        int[][] by = {{2, 2}, {1, 2}, {1, 1}, {1, 0}, {0, 0}};
        for (int i = 0; i < 5; i++) {
            due("undo", x.undo(), 4 - i);
            counts("by its turn", x, 2, 7, 2, 4, by[i][0], by[i][1], 1, 4 - i, i + 1);
        }
        // what is no step: worlds, texts, bytes, what is refused or asked
        x.module(2, 1, 0, 0);
        int steps = x.count(7);
        Edges.read(x, "map 1;");
        Edges.read(x, "$");
        x.feed(0, 0, 0, 0, 0);
        x.end(3);
        x.act(0, 2, 1);
        x.dual(0, 0, -1);
        x.image();
        x.map(0, 0, 0);
        due("steps", x.count(7), steps);
        // twenty at most: ten of both
        x = Made.FULL_OF_BOTH.make();
        due("steps", x.count(7), 20);
        for (int i = 19; i >= 0; i--) {
            due("undo", x.undo(), i);
        }
        due("undone", x.count(8), 20);
        for (int i = 1; i <= 20; i++) {
            due("redo", x.redo(), i);
        }
        Edges.row(x, false, 9, 1, 1);
        Edges.row(x, true, 9, 1, 1);
    }

    @Says(at = "IV", value = "UNDO: the latest STEP is undone;")
    static void ivUndo() {
        PowersForTimes x = Edges.at(2, 7);
        x.map(1, 0, 0);
        x.module(2, 1, 0, 0);
        x.map(2, 0, 0);
        due("undo", x.undo(), 2);
        due("the map is gone", x.of(true, 1, 0), NONE);
        due("the first map is not", x.of(true, 0, 0), 1);
        due("the module is not", x.of(false, 0, 0), 2);
        due("undo", x.undo(), 1);
        due("the module is gone", x.of(false, 0, 0), NONE);
        due("what is gone acts no more", x.act(0, 1, 1), NONE);
        due("a map of it has none", x.leads(0, 0, 0), NONE);
        due("undo", x.undo(), 0);
        due("the first map is gone", x.send(0, 1), NONE);
        counts("nothing is there", x, 2, 7, 2, 4, 0, 0, 0, 0, 3);
    }

    @Says(at = "IV", value = "REDO: the latest one that was undone is done again, if none was told since.")
    static void ivRedo() {
        PowersForTimes x = Edges.at(2, 7);
        due("text", Edges.read(x, "map 3;"), 0);
        due("text", Edges.read(x, "map 0;"), 1);
        x.map(1, 1, 0);
        x.module(2, 1, 0, 0);
        x.map(2, 3, 1);
        x.undo();
        x.undo();
        due("redo: the module, undone later than the map", x.redo(), 2);
        Edges.row(x, false, 0, 2, 1);
        due("maps", x.count(5), 1);
        due("redo: the map", x.redo(), 3);
        Edges.row(x, true, 1, 2, 3, 1);
        due("nothing more", x.redo(), NONE);
        // none was told: what is refused, asked, read or kept does not count
        x.undo();
        x.undo();
        x.module(1, 0, 0, 0);
        x.map(0, 0, 0);
        x.told(1);
        x.made(0, 0);
        Edges.read(x, "map 1;");
        x.image();
        due("redo", x.redo(), 2);
        due("redo", x.redo(), 3);
        Edges.row(x, true, 1, 2, 3, 1);
        // told since, each way: nothing is done again, however many were undone
        Edges.Call[] tells = {y -> y.module(3, 1, 0, 0), y -> y.map(3, 0, 0), y -> y.made(0, 1), y -> y.told(0)};
        for (Edges.Call tell : tells) {
            x = Made.RICH.make();
            due("two are undone", x.count(8), 2);
            tell.on(x);
            due("steps", x.count(7), 6);
            due("none is undone", x.count(8), 0);
            due("redo", x.redo(), NONE);
            due("undo", x.undo(), 5);
            due("the one that was told is undone", x.count(8), 1);
            due("redo", x.redo(), 6);
            due("redo", x.redo(), NONE);
        }
    }

    @Says(at = "Promise 30", value = "UNDO: how many STEPS are done.")
    static void p30Undo() {
        PowersForTimes x = Edges.at(2, 7);
        for (int i = 1; i <= 3; i++) {
            x.map(i, 0, 0);
        }
        due("undo", x.undo(), 2);
        due("undo", x.undo(), 1);
        due("undo", x.undo(), 0);
        counts("undone", x, 2, 7, 2, 4, 0, 0, 0, 0, 3, 0);
    }

    @Says(at = "Promise 30", value = "NONE, if there is none.")
    static void p30UndoNone() {
        PowersForTimes x = Edges.at(2, 7);
        due("none ever", x.undo(), NONE);
        x.map(3, 0, 0);
        due("one", x.undo(), 0);
        due("none any more", x.undo(), NONE);
        due("none any more", x.undo(), NONE);
        due("undone", x.count(8), 1);
        due("steps", x.count(7), 0);
        due("redo", x.redo(), 1);
        Edges.row(x, true, 0, 3);
        x.world(2, 7);
        due("none in a new world", x.undo(), NONE);
        Edges.refused("undo", NONE, y -> y.undo(), Made.NEW);
        for (Made state : new Made[] {Made.RICH, Made.FULL_OF_BOTH, Made.FULL_OF_MAPS}) {
            PowersForTimes y = state.make();
            int steps = y.count(7);
            int undone = y.count(8);
            for (int i = steps - 1; i >= -3; i--) {
                due("undo", y.undo(), Math.max(i, NONE));
            }
            due("undone", y.count(8), steps + undone);
            for (int i = 1; i <= steps + undone; i++) {
                due("redo", y.redo(), i);
            }
            due("redo", y.redo(), NONE);
        }
    }

    @Says(at = "Promise 31", value = "REDO: how many STEPS are done.")
    static void p31Redo() {
        PowersForTimes x = Edges.at(2, 7);
        for (int i = 1; i <= 3; i++) {
            x.map(i, 0, 0);
        }
        for (int i = 0; i < 3; i++) {
            x.undo();
        }
        for (int i = 1; i <= 3; i++) {
            due("redo", x.redo(), i);
            Edges.row(x, true, i - 1, i);
            counts("redone", x, 2, 7, 2, 4, 0, i, 0, i, 3 - i, 0);
        }
    }

    @Says(at = "Promise 31", value = "NONE, if there is none.")
    static void p31RedoNone() {
        PowersForTimes x = Edges.at(2, 7);
        due("none ever", x.redo(), NONE);
        x.map(3, 0, 0);
        due("none undone", x.redo(), NONE);
        x.undo();
        due("one", x.redo(), 1);
        due("none any more", x.redo(), NONE);
        due("steps", x.count(7), 1);
        x.undo();
        x.map(2, 0, 0);
        due("one was told since", x.redo(), NONE);
        Edges.row(x, true, 0, 2);
        x.undo();
        x.world(2, 7);
        due("none in a new world", x.redo(), NONE);
        Edges.refused("redo", NONE, y -> y.redo(), Made.NEW, Made.FULL_OF_BOTH);
    }

    // ---- the image

    @Says(at = "IV", value = "AN IMAGE: all as it is (what was undone, too), but the tape and the latest FAULT.")
    static void ivImage() {
        PowersForTimes x = Edges.at(3, 10);
        due("text", Edges.read(x, "map 5;"), 0);
        due("text", Edges.read(x, "map 10000;"), NONE);
        x.module(3, 1, 0, 0);
        x.map(2, 0, 0);
        x.map(4, 1, 0);
        x.undo();
        x.undo();
        Due.put(x, "map 1");
        due("image", x.image(), 1);
        // all is made otherwise
        due("text", Edges.read(x, "map ^;"), NONE);
        due("text", Edges.read(x, "map 7;"), 1);
        due("text", Edges.read(x, "$$"), NONE);
        x.undo();
        x.map(8, 8, 8);
        x.module(8, 8, 8, 8);
        x.map(7, 7, 7);
        due("world", x.world(2, 131), 128);
        x.module(127, 127, 127, 127);
        x.map(127, 127, 127);
        Due.put(x, "map 12;");
        due("back", x.back(), 1);
        counts("back", x, 3, 10, 2, 9, 1, 0, 1, 1, 2, 7);
        due("the latest fault is not", x.fault(0), 1);
        due("nor its place", x.fault(1), 0);
        Edges.row(x, false, 0, 3, 1);
        due("5 + 7", x.work(0, 5, 7), 0);
        due("what was undone", x.redo(), 2);
        Edges.row(x, true, 0, 2);
        due("what was undone", x.redo(), 3);
        Edges.row(x, true, 1, 4, 1);
        due("redo", x.redo(), NONE);
        due("the text of then", x.told(0), NONE);
        Edges.row(x, true, 2, 5);
        due("no text of later", x.told(1), -2);
        due("the tape as it was last", x.text(), 1);
        x.world(2, 131);
        due("told", x.told(1), NONE);
        Edges.row(x, true, 0, 12);
    }

    @Says(at = "IV", value = "BACK: all is so again.")
    static void ivBack() {
        // whatever is done after an image, back makes it as it was
        Edges.Call[] calls = {x -> x.world(5, 131), x -> x.world(3, 10), x -> x.module(1, 1, 1, 1), x -> x.map(1, 1, 1), x -> x.made(0, 1),
            x -> x.undo(), x -> x.redo(), x -> x.told(0), x -> x.told(1), x -> Edges.read(x, "map 1;"), x -> Edges.read(x, "$"),
            x -> x.undo() + x.undo() + x.map(1, 0, 0) + x.module(1, 1, 0, 0) + x.map(0, 0, 1), x -> x.work(2, 1, 1) + x.poly(2, 3, 3)};
        for (Made state : Made.values()) {
            for (Edges.Call call : calls) {
                Edges.same(state, x -> x.image(), x -> {
                    x.image();
                    call.on(x);
                    return x.back();
                });
            }
        }
    }

    @Says(at = "Promise 32", value = "THE IMAGE is as all is now: how many STEPS are done.")
    static void p32Image() {
        PowersForTimes x = Edges.at(2, 7);
        due("no step", x.image(), 0);
        x.map(3, 0, 0);
        due("one", x.image(), 1);
        x.map(2, 0, 0);
        due("back to the latest image", x.back(), 1);
        Edges.row(x, true, 0, 3);
        due("maps", x.count(5), 1);
        x.undo();
        due("of what is done alone", x.image(), 0);
        x.redo();
        due("back", x.back(), 0);
        due("undone", x.count(8), 1);
        due("redo", x.redo(), 1);
        Edges.row(x, true, 0, 3);
        x = Made.FULL_OF_BOTH.make();
        due("twenty", x.image(), 20);
        x.world(2, 2);
        due("twenty", x.back(), 20);
        Edges.row(x, false, 9, 1, 1);
        // an image changes nothing but the image
        x = Made.RICH.make();
        PowersForTimes y = Made.RICH.make();
        due("image", x.image(), 5);
        for (int i = 0; i < 10; i++) {
            due("count(" + i + ")", x.count(i), y.count(i));
        }
        due("fault", x.fault(0), 2);
        due("redo", x.redo(), 6);
        due("redo", x.redo(), 7);
        due("the tape", x.text(), 2);
    }

    @Says(at = "Promise 33", value = "BACK to THE IMAGE (it stays): how many STEPS are done.")
    static void p33BackTheImageStays() {
        PowersForTimes x = Made.RICH.make();
        for (int round = 0; round < 4; round++) {
            due("back", x.back(), 2);
            counts("back", x, 2, 11, 3, 8, 1, 1, 1, 2, 1, 21);
            Edges.row(x, false, 0, 2, 1);
            Edges.row(x, true, 0, 3, 2);
            switch (round) {
                case 0:
                    due("redo", x.redo(), 3);
                    Edges.row(x, true, 1, 2, 0, 1);
                    break;
                case 1:
                    due("map", x.map(7, 7, 7), 1);
                    due("redo", x.redo(), NONE);
                    break;
                default:
                    due("undo", x.undo(), 1);
                    due("map", x.map(7, 7, 7), 0);
                    due("world", x.world(3, 10), 9);
                    break;
            }
        }
        due("a new object's image", new PowersForTimes().back(), 0);
    }

    // ---- counts

    @Says(at = "Promise 34", value = "0 q, 1 M, 2 d, 3 N, 4 MODULES, 5 MAPS, 6 TEXTS, 7 STEPS done, 8 undone, 9 bytes of the tape.")
    static void p34Count() {
        counts("new", Made.NEW.make(), 2, 2, 1, 2, 0, 0, 0, 0, 0, 0);
        counts("rich", Made.RICH.make(), 3, 10, 2, 9, 3, 2, 2, 5, 2, 21);
        counts("ten modules", Made.FULL_OF_MODULES.make(), 2, 7, 2, 4, 10, 0, 1, 10, 1, 0);
        counts("ten maps", Made.FULL_OF_MAPS.make(), 2, 7, 2, 4, 1, 10, 1, 11, 1, 0);
        counts("ten of both", Made.FULL_OF_BOTH.make(), 2, 7, 2, 4, 10, 10, 1, 20, 0, 0);
        counts("four texts", Made.FULL_OF_TEXTS.make(), 2, 7, 2, 4, 1, 0, 4, 1, 1, 6);
        counts("a full tape", Made.FULL_OF_BYTES.make(), 2, 7, 2, 4, 0, 0, 1, 0, 1, 300);
        counts("the greatest of 2", Edges.at(2, 247), 2, 247, 7, 128, 0, 0, 0, 0, 0, 0);
        counts("the greatest of 5", Edges.at(5, 131), 5, 131, 3, 125, 0, 0, 0, 0, 0, 0);
    }

    @Says(at = "Promise 34", value = "-2 for others.")
    static void p34CountOfOthers() {
        for (int bad : new int[] {-1, -2, 10, 11, LEAST, MOST}) {
            Edges.refused("count(" + bad + ")", -2, x -> x.count(bad), Made.NEW, Made.RICH);
        }
    }

    // ---- what is said of the whole

    @Says(at = "What it is", value = "An object is used for at most 512 calls after it has been made; what later calls answer is free.")
    static void whatItIsFiveHundredAndTwelveCalls() {
        // all that fills up, emptied again and again up to the last call
        PowersForTimes x = new PowersForTimes();
        int calls = 0;
        due("world", x.world(2, 7), 4);
        calls++;
        while (calls < 500) {
            due("feed", x.feed(0x6d617020, 0x323b2020, 0x20202020, 0x20202020, 0x20202020), 20);
            due("text", x.text(), 0);
            due("told", x.told(0), NONE);
            due("module", x.module(2, 1, 1, 0), 0);
            due("made", x.made(0, 3), 1);
            due("ends", x.ends(0, 1), 4);
            due("classes", x.classes(2, 3), 16);
            due("back", x.back(), 0);
            due("world", x.world(2, 7), 4);
            calls += 9;
        }
        while (calls < 511) {
            due("map", x.map(3, 0, 0), calls - 505);
            calls++;
        }
        due("the 512th call", x.undo(), 5);
        for (Edges.Call same : new Edges.Call[] {y -> y.greatest(0), y -> y.factors(120, 1), y -> y.redo(), y -> y.count(3), y -> y.fault(0)}) {
            PowersForTimes y = new PowersForTimes();
            int first = same.on(y);
            for (int i = 2; i <= 512; i++) {
                due("call " + i, same.on(y), first);
            }
        }
    }

    @Says(at = "Not promised", value = "Nothing is promised beyond the answers and state changes described above,")
    static void notPromisedStateChangesOfWhatIsAsked() {
        Edges.Call[] asks = {x -> x.work(2, 1, 1), x -> x.work(3, 1, 1), x -> x.poly(2, 5, 5), x -> x.poly(3, 500, 6), x -> x.poly(4, 500, 6),
            x -> x.poly(5, 12, 6), x -> x.fault(0), x -> x.fault(1), x -> x.of(false, 0, 0), x -> x.of(true, 0, -1), x -> x.act(0, 7, 1),
            x -> x.acts(0, 7, 2), x -> x.acts(0, 8191, 2), x -> x.send(0, 1), x -> x.noughts(0, 2, -1), x -> x.noughts(0, 2, 0),
            x -> x.about(0, 0), x -> x.about(0, 1), x -> x.about(0, 2), x -> x.parts(0, -1), x -> x.parts(0, 0), x -> x.great(0, 0),
            x -> x.great(0, 1), x -> x.great(1, 1), x -> x.leads(0, 0, 0), x -> x.dual(0, 0, -1), x -> x.dual(0, 0, 0), x -> x.ends(0, 0),
            x -> x.ends(0, 2), x -> x.alike(0, 0), x -> x.alike(0, 1), x -> x.classes(0, 3), x -> x.greatest(0), x -> x.sums(2, 2),
            x -> x.symbol(5, 3), x -> x.factors(500, -1), x -> x.factors(500, 0), x -> x.count(0), x -> x.count(9)};
        for (int i = 0; i < asks.length; i++) {
            Edges.quiet("ask " + i, asks[i], Made.values());
        }
    }

    @Says(at = "Not promised", value = "How the state is held inside the object is free,")
    static void notPromisedObjectsShareNothing() {
        PowersForTimes x = Made.RICH.make();
        PowersForTimes y = new PowersForTimes();
        y.world(5, 131);
        y.module(124, 124, 0, 0);
        Edges.read(y, "map 99;map t;");
        y.image();
        PowersForTimes z = new PowersForTimes();
        counts("one", x, 3, 10, 2, 9, 3, 2, 2, 5, 2, 21);
        counts("other", y, 5, 131, 3, 125, 1, 0, 1, 1, 0, 0);
        counts("a third", z, 2, 2, 1, 2, 0, 0, 0, 0, 0, 0);
        due("5 + 7 over 3", x.work(0, 5, 7), 0);
        due("5 + 7 over 5", y.work(0, 5, 7), 12);
        due("1 + 1 over 2", z.work(0, 1, 1), 0);
        due("T^12 over 3", x.poly(2, 729, 729), 531441);
        due("the others' fault", y.fault(0), 0);
        due("a new one's fault", z.fault(0), NONE);
        due("back of one", x.back(), 2);
        due("back of the other", y.back(), 1);
        Edges.row(y, false, 0, 124, 124);
        Edges.row(x, false, 0, 2, 1);
    }
}
