/** Each sentence of part II, and of promises 7 to 11: the tape, texts, faults, what is told. */
public final class TextsEdgesTest {
    private static final int LEAST = Edges.LEAST;
    private static final int MOST = Edges.MOST;
    private static final int NONE = -1;

    public static void main(String[] args) {
        Edges.run(TextsEdgesTest.class);
    }

    private static void due(String call, int got, int want) {
        Due.due(call, got, want);
    }

    /** The text, on a new object, has no fault. */
    private static void good(String text) {
        fault(text, 0, NONE);
    }

    private static void fault(String text, int fault, int place) {
        PowersForTimes x = new PowersForTimes();
        String name = "'" + text + "' ";
        due(name, Edges.read(x, text), fault == 0 ? 0 : NONE);
        due(name + "fault", x.fault(0), fault);
        due(name + "place", x.fault(1), place);
    }

    /** The text has no fault, and in the world 2, 7 tells one map, whose coefficients are these. */
    private static void map(String sum, int... c) {
        PowersForTimes x = Edges.at(2, 7);
        due("'" + sum + "'", Edges.read(x, "map " + sum + ";"), 0);
        due("'" + sum + "' told", x.told(0), NONE);
        Edges.row(x, true, 0, c);
    }

    /** The text has no fault, and in the world 3, 10 its clause of this number can't be; NONE: all can. */
    private static void cannot(String text, int clause) {
        PowersForTimes x = Edges.at(3, 10);
        due("'" + text + "'", Edges.read(x, text), 0);
        due("'" + text + "' told", x.told(0), clause);
    }

    // ---- texts and their tokens

    @Says(at = "II", value = "TEXTS 0 .. 3: of up to 300 bytes.")
    static void iiTexts() {
        PowersForTimes x = Edges.at(2, 7);
        String[] texts = {"", "map 1;" + " ".repeat(293), "map 2;" + " ".repeat(294), " ".repeat(294) + "map 3;"};
        for (int i = 0; i < texts.length; i++) {
            due("text " + i, Edges.read(x, texts[i]), i);
        }
        due("a fifth", Edges.read(x, "map 1;"), NONE);
        due("texts", x.count(6), 4);
        int[] told = {0, 1, 1, 1};
        for (int i = 0; i < texts.length; i++) {
            int before = x.count(5);
            due("told " + i, x.told(i), NONE);
            due("maps by " + i, x.count(5), before + told[i]);
        }
        Edges.row(x, true, 0, 1);
        Edges.row(x, true, 1, 2);
        Edges.row(x, true, 2, 3);
        fault(" ".repeat(293) + "map 1;;", 1, 299);
        fault(" ".repeat(295) + "map 1", 1, 300);
        fault(" ".repeat(299) + "x", 1, 299);
    }

    @Says(at = "II", value = "TOKENS, blanks (32, 10) aside:")
    static void iiBlanks() {
        for (int b = 0; b < 256; b++) {
            char c = (char) b;
            boolean blank = b == 32 || b == 10;
            if (blank) {
                good("map" + c + c + "1" + c + ";");
                good(c + "map 1;");
                good("map 1;" + c);
                good("" + c);
                good("map" + c + "t" + c + "^" + c + "2" + c + "*" + c + "(" + c + "-" + c + "1" + c + ")" + c + ";" + c);
            } else {
                fault(c + " 1;", 1, 0);
                fault(" " + c + "map 1;", 1, 1);
            }
        }
        // a blank ends a token
        fault("ma p 1;", 1, 0);
        fault("map\n1 2;", 1, 6);
        fault("map 1 0000;", 1, 6);
        fault("map t t;", 1, 6);
        fault("map 1;\n \n", 0, NONE);
    }

    @Says(at = "II", value = "letters a .. z, A .. Z one behind the other (one TOKEN),")
    static void iiLetters() {
        for (int b = 0; b < 256; b++) {
            char c = (char) b;
            boolean letter = c >= 'a' && c <= 'z' || c >= 'A' && c <= 'Z';
            boolean one = c == ' ' || c == '\n' || c == '(' || c == '-' || c >= '0' && c <= '9';
            // a letter makes another token of map: the fault is at its first byte
            fault("map" + c, 1, letter ? 0 : one ? 4 : 3);
            fault("map x" + c + " 1;", 1, 4);
        }
        for (String word : new String[] {"mapa", "mapz", "mapA", "mapZ", "amap", "ma", "m", "modul", "modules", "moduleT", "MAP", "Map", "mAp", "t", "T"}) {
            fault(word + " 1;", 1, 0);
            fault("map 1;" + word + " 1;", 1, 6);
        }
        for (String word : new String[] {"a", "T", "tt", "tT", "x", "map", "module", "s", "u", "abcdefghijklmnopqrstuvwxyzABCDEFGHIJKLMNOPQRSTUVWXYZ"}) {
            fault("map " + word + ";", 1, 4);
            fault("map 1+" + word + ";", 1, 6);
        }
        good("map t;");
        good("map1;module2;");
        fault("map" + "z".repeat(297), 1, 0);
    }

    @Says(at = "II", value = "digits likewise (NUMBERS, 0 .. 9999),")
    static void iiNumbers() {
        good("map 0;");
        good("map 9;");
        good("map 9998;");
        good("map 9999;");
        good("map 00000000009999;");
        good("map " + "0".repeat(295) + ";");
        fault("map 10000;", 2, 4);
        fault("map 10001;", 2, 4);
        fault("map 000010000;", 2, 4);
        fault("map 4294967296;", 2, 4);
        fault("map 18446744073709551616;", 2, 4);
        fault("map " + "9".repeat(295) + ";", 2, 4);
        // beside the digits stand / and :
        fault("map 1/;", 1, 5);
        fault("map 1:;", 1, 5);
        fault("map /1;", 1, 4);
        fault("map :1;", 1, 4);
        fault("map 12 34;", 1, 7);
        fault("map 1t;", 1, 5);
        fault("map t1;", 1, 5);
        map("01", 1);
        map("003", 3);
        cannot("map 08;map 10;", 1);
    }

    @Says(at = "II", value = "+ - * ^ ( ) ; each by itself.")
    static void iiSigns() {
        good("map((1)+(t))*-(1-t^2);module t-1;");
        good("map--1--1;");
        fault("map 1++1;", 1, 6);
        fault("map 1**1;", 1, 6);
        fault("map t^^1;", 1, 6);
        fault("map 1;;", 1, 6);
        fault("map 1));", 1, 5);
        fault("map (1)(1);", 1, 7);
        map("1--t", 1, 1);
        map("t*-(-2)", 0, 3);
        // every byte that is no token, between tokens
        for (int b = 0; b < 256; b++) {
            char c = (char) b;
            if (" \n+-*^();0123456789".indexOf(c) < 0 && !Character.isLetter(c) || b > 127) {
                fault("map 1" + c, 1, 5);
                fault("map " + c + "1;", 1, 4);
                fault(c + "map 1;", 1, 0);
                fault("map 1;" + c, 1, 6);
            }
        }
    }

    // ---- what a text is made of

    @Says(at = "II", value = "{CLAUSE}, 20 at most: module SUM ; or map SUM ;.")
    static void iiClauses() {
        for (int many : new int[] {0, 1, 2, 19, 20}) {
            good("map 1;".repeat(many));
            good("module t;".repeat(many));
        }
        good("map 1;module t;".repeat(10));
        fault("map 1;".repeat(21), 4, 120);
        fault("module t;".repeat(21), 4, 180);
        fault("map 1;module t;".repeat(10) + "map 1;", 4, 150);
        fault("map", 1, 3);
        fault("map;", 1, 3);
        fault("map 1", 1, 5);
        fault("module", 1, 6);
        fault("module ;", 1, 7);
        fault("module t", 1, 8);
        fault(";", 1, 0);
        fault("1;", 1, 0);
        fault("map map 1;", 1, 4);
        fault("map 1 map 1;", 1, 6);
        fault("map 1;1;", 1, 6);
    }

    @Says(at = "II", value = "SUM: PRODUCT {+ or - PRODUCT}.")
    static void iiSums() {
        map("1", 1);
        map("1+2", 3);
        map("1+2+t", 3, 1);
        map("t*2-2*t", 0, 1);
        // from the left: 1 - 1 - 1, and not 1 - (1 - 1)
        PowersForTimes x = Edges.at(3, 10);
        due("text", Edges.read(x, "map 1-1-1;map 2-1+1-t*3;map t-1*2;"), 0);
        due("told", x.told(0), NONE);
        Edges.row(x, true, 0, 2);
        Edges.row(x, true, 1, 2, 3);
        Edges.row(x, true, 2, 1, 1);
        good("map 1" + "+1".repeat(147) + ";");
        good("map 1" + "-1".repeat(147) + ";");
        fault("map +1;", 1, 4);
        fault("map 1+;", 1, 6);
        fault("map 1-;", 1, 6);
        fault("map 1+*1;", 1, 6);
        fault("map 1-+1;", 1, 6);
        fault("map (+1);", 1, 5);
    }

    @Says(at = "II", value = "PRODUCT: POWER {* POWER}.")
    static void iiProducts() {
        map("2*3", 1);
        map("2*2*2", 1);
        map("1+2*2", 2);
        map("2*t*2", 0, 1);
        map("t*2*t", 0, 0, 3);
        map("2*t^2*2^2", 0, 0, 1);
        good("map 1" + "*1".repeat(147) + ";");
        fault("map *1;", 1, 4);
        fault("map 1*;", 1, 6);
        fault("map 1*+1;", 1, 6);
        fault("map 1 1;", 1, 6);
        fault("map 1 t;", 1, 6);
        fault("map 1(1);", 1, 5);
        fault("map 1*)", 1, 6);
    }

    @Says(at = "II", value = "POWER: ONE or ONE ^ NUMBER (0 .. 24).")
    static void iiPowers() {
        map("t^0", 1);
        map("t^1", 0, 1);
        map("t^7", 0, 0, 0, 0, 0, 0, 0, 1);
        map("2^23", 3);
        map("2^24", 1);
        map("(t+1)^2", 1, 0, 1);
        map("2+t^2", 2, 0, 1);
        map("2*t^2", 0, 0, 2);
        // (2 t)^2 = 2 3 t^2
        map("(2*t)^2", 0, 0, 1);
        good("map 1^24;");
        good("map 1^0024;");
        fault("map 1^25;", 2, 6);
        fault("map 1^26;", 2, 6);
        fault("map 1^99;", 2, 6);
        fault("map 1^t;", 1, 6);
        fault("map 1^-1;", 1, 6);
        fault("map 1^(1);", 1, 6);
        fault("map 1^;", 1, 6);
        fault("map 1^1^1;", 1, 7);
        fault("map ^1;", 1, 4);
        good("map (1^1)^1;");
    }

    @Says(at = "II", value = "ONE: NUMBER, t, ( SUM ), - ONE.")
    static void iiOnes() {
        map("3", 3);
        map("t", 0, 1);
        map("(2)", 2);
        map("((2+t))", 2, 1);
        PowersForTimes x = Edges.at(3, 10);
        // - takes one ONE, and so is inside of ^: (-t)^2 and not -(t^2)
        due("text", Edges.read(x, "map -1;map --1;map -t^2;map -(t)^2;map -(t^2);map -3*t;map -1+2*t;map 1*-t;map 2--1+t;"), 0);
        due("told", x.told(0), NONE);
        Edges.row(x, true, 0, 2);
        Edges.row(x, true, 1, 1);
        Edges.row(x, true, 2, 0, 0, 1);
        Edges.row(x, true, 3, 0, 0, 1);
        Edges.row(x, true, 4, 0, 0, 2);
        Edges.row(x, true, 5, 0, 6);
        Edges.row(x, true, 6, 2, 2);
        Edges.row(x, true, 7, 0, 2);
        Edges.row(x, true, 8, 0, 1);
        fault("map ();", 1, 5);
        fault("map (1;", 1, 6);
        fault("map (1", 1, 6);
        fault("map 1);", 1, 5);
        fault("map -;", 1, 5);
        fault("map -", 1, 5);
        fault("map -+1;", 1, 5);
        fault("map -*1;", 1, 5);
        fault("map (1;);", 1, 6);
    }

    // ---- faults

    @Says(at = "II", value = "FAULTS, the first as TOKENS are come to, at the TOKEN's first byte (of the end at the length),")
    static void iiFirstFault() {
        fault("map 10000 $;", 2, 4);
        fault("map 1 $ 10000;", 1, 6);
        fault("map t^25+$;", 2, 6);
        fault("map 1+$+t^25;", 1, 6);
        fault("map ((((((((( 10000", 3, 12);
        fault("map (((((((( 10000 (((", 2, 13);
        fault("map 1;".repeat(20) + "map 10000;", 4, 120);
        fault("map 10000;" + "map 1;".repeat(21), 2, 4);
        fault("map 1;".repeat(19) + "map 10000;map 1;", 2, 118);
        fault("map 1; module 1; mopule 10000", 1, 17);
        fault("  map   12345678", 2, 8);
        fault("map 1 + abcdef;", 1, 8);
        fault("map 1", 1, 5);
        fault("map 1 \n ", 1, 8);
        fault("map 1*", 1, 6);
        fault("map 1^", 1, 6);
        fault("map (1+", 1, 7);
        fault("map 1;map   ", 1, 12);
    }

    @Says(at = "II", value = "of one the least:")
    static void iiLeastFaultOfOneToken() {
        // a token that can't stand there is 1, whatever else it would be
        fault("map 1 10000;", 1, 6);
        fault("10000;", 1, 0);
        fault("map (((((((( 1 (", 1, 15);
        fault("map (((((((( *", 1, 13);
        fault("map (((((((( )", 1, 13);
        fault("map (((((((( map", 1, 13);
        fault("map ((((((((", 1, 12);
        fault("map --------+", 1, 12);
        fault("map (((((((( 1 10000", 1, 15);
        fault("map 1;".repeat(20) + "10000", 1, 120);
        fault("map 1;".repeat(20) + "(", 1, 120);
        fault("map 1;".repeat(20) + "$", 1, 120);
        fault("map 1;".repeat(20) + "Map 1;", 1, 120);
        fault("map 1;".repeat(20) + "map 1;", 4, 120);
        fault("map 1^2 25;", 1, 8);
        fault("map t^10000;", 2, 6);
    }

    @Says(at = "II", value = "1 it can't stand there, or is none.")
    static void iiWhatCanStandWhere() {
        String start = "module map ";
        String one = "2 t ( - ";
        String[][] ways = {
            // what stands there, what can stand behind it; . is the end
            {"", start + "."},
            {"map", one},
            {"module", one},
            {"map -", one},
            {"map (", one},
            {"map (-", one},
            {"map 1 +", one},
            {"map 1 -", one},
            {"map 1 *", one},
            {"map (t *", one},
            {"map 1", "+ - * ^ ; "},
            {"map t", "+ - * ^ ; "},
            {"map -t", "+ - * ^ ; "},
            {"map (1)", "+ - * ^ ; "},
            {"map (1", "+ - * ^ ) "},
            {"map -(t", "+ - * ^ ) "},
            {"map ((1)", "+ - * ^ ) "},
            {"map 1^", "2 "},
            {"map (1^", "2 "},
            {"map 1^2", "+ - * ; "},
            {"map (1)^2", "+ - * ; "},
            {"map (1^2", "+ - * ) "},
            {"map 1;", start + "."},
            {"map 1;module t;", start + "."}
        };
        String tokens = "module map 2 t x T tt + - * ^ ( ) ; $ , 0x \u0080 \u00ff";
        for (String[] way : ways) {
            String can = " " + way[1] + " ";
            int at = way[0].length() + 1;
            for (String token : tokens.split(" ")) {
                // what can stand there leaves a fault, if any, to what comes behind it
                PowersForTimes x = new PowersForTimes();
                String text = way[0] + " " + token;
                Edges.read(x, text + " $");
                boolean is = can.contains(" " + token + " ");
                due("'" + text + " $' fault", x.fault(0), 1);
                due("'" + text + " $' place", x.fault(1), is ? at + token.length() + 1 : token.equals("0x") && can.contains(" 2 ") ? at + 1 : at);
            }
            boolean ends = can.contains(" . ");
            fault(way[0], ends ? 0 : 1, ends ? NONE : way[0].length());
            fault(way[0] + " ", ends ? 0 : 1, ends ? NONE : way[0].length() + 1);
        }
    }

    @Says(at = "II", value = "2 a NUMBER above 9999, or of a power above 24.")
    static void iiNumbersThatAreTooGreat() {
        good("map 9999+9999*9999;");
        good("map (9999)^24;");
        good("map 25+t*26;");
        fault("map 1+10000;", 2, 6);
        fault("module (1*10000);", 2, 10);
        fault("map -10000;", 2, 5);
        good("map t^24+t^23;");
        fault("map t^24+t^25;", 2, 11);
        fault("map t^0000025;", 2, 6);
        fault("map t^9999;", 2, 6);
        fault("map t^4294967296;", 2, 6);
        fault("map t^18446744073709551640;", 2, 6);
    }

    @Says(at = "II", value = "3 the 9th of ( and - (of one ONE) that are open around one another (at it).")
    static void iiNinthThatIsOpen() {
        good("map ((((((((1))))))));");
        fault("map (((((((((1)))))))));", 3, 12);
        good("map --------1;");
        fault("map ---------1;", 3, 12);
        good("map -(-(-(-(1))));");
        fault("map -(-(-(-(-1))));", 3, 12);
        good("map (-(-(-(-1))));");
        fault("map (-(-(-(-(1)))));", 3, 12);
        fault("map ((((((((-1))))))));", 3, 12);
        fault("map --------(1);", 3, 12);
        fault("map ( ( ( ( ( ( ( (\n(", 3, 20);
        // a - of a SUM opens nothing
        good("map ((((((((1-1-1))))))));");
        fault("map ((((((((1--1))))))));", 3, 14);
        good("map (((((((-1-(1))))))));");
        // what is closed counts no more: a - with its ONE, a ( with its )
        good("map ((((((((1))))))))+((((((((1))))))));");
        good("map --------1---------1;");
        fault("map --------1----------1;", 3, 22);
        good("map (((((((-1*-1*(1)*-t)))))))^2;");
        good("map ((((((((1)))))))+(((((((1))))))));");
        fault("map ((((((((1)))))))+((((((((1", 3, 28);
        good("map -(-(-(-(1))))^2*-(-(-(-(1))));");
        fault("map ((((((((1)-(1)-((", 3, 20);
    }

    @Says(at = "II", value = "3 the 9th of ( and - (of one ONE) that are open around one another (at it).")
    static void iiEightThatAreOpenAreWorked() {
        PowersForTimes x = Edges.at(2, 7);
        Naive w = new Naive(2, 7);
        StringBuilder sums = new StringBuilder("1+2*t^2");
        StringBuilder signs = new StringBuilder("1-t*2^2");
        int[] byTwo = {1, 0, 2};
        // t 3 is 2 t
        int[] byLess = {1, 2};
        for (int open = 1; open <= 8; open++) {
            sums.insert(0, "t+2*(").append(")");
            byTwo = w.plus(new int[] {0, 1}, w.times(new int[] {2}, byTwo), false);
            signs.insert(0, open % 2 == 0 ? "t-3*-(" : "2*(").append(")").append(open % 4 == 0 ? "" : "^1");
            byLess = open % 2 == 0 ? w.plus(new int[] {0, 1}, w.times(new int[] {3}, byLess), false) : w.times(new int[] {2}, byLess);
            boolean can = open + open / 2 <= 8;
            int texts = x.count(6);
            due(open + " open", Edges.read(x, "map " + sums + ";"), texts);
            due("told", x.told(texts), NONE);
            Edges.row(x, true, 0, byTwo);
            due(open + " open, and -", Edges.read(x, "map " + signs + ";"), can ? texts + 1 : NONE);
            due("fault", x.fault(0), can ? 0 : 3);
            if (can) {
                due("told", x.told(texts + 1), NONE);
                Edges.row(x, true, 1, byLess);
            }
            x.back();
            x.world(2, 7);
        }
    }

    @Says(at = "II", value = "4 the 21st CLAUSE (at its first TOKEN).")
    static void iiTwentyFirstClause() {
        String twenty = "map 1;".repeat(20);
        good(twenty);
        good(twenty + "\n");
        fault(twenty + "map 1;", 4, 120);
        fault(twenty + "module", 4, 120);
        fault(twenty + " \n  map", 4, 124);
        fault(twenty + "map $;", 4, 120);
        fault("map 1;".repeat(19) + "map 1", 1, 119);
        fault("map 1;".repeat(19) + "module $;", 1, 121);
        fault("\n".repeat(3) + twenty + "map 1;map 1;", 4, 123);
    }

    // ---- what is told

    @Says(at = "II", value = "TOLD by a TEXT: its CLAUSES in their order tell a MODULE or a MAP each, worked in TURNED polynomials (a NUMBER is a REST; to the power of 0: 1).")
    static void iiTold() {
        PowersForTimes x = Edges.at(3, 10);
        due("text", Edges.read(x, "map 3;module 8+8*t;map t*3*t;module 1+t^3;map 0^0;map (t+1)^0*4;map 8^0+0;map t^0-t;"), 0);
        due("told", x.told(0), NONE);
        due("steps", x.count(7), 8);
        due("modules", x.count(4), 2);
        due("maps", x.count(5), 6);
        Edges.row(x, false, 0, 8, 8);
        Edges.row(x, false, 1, 1, 0, 0, 1);
        Edges.row(x, true, 0, 3);
        Edges.row(x, true, 1, 0, 0, 6);
        Edges.row(x, true, 2, 1);
        Edges.row(x, true, 3, 4);
        Edges.row(x, true, 4, 1);
        Edges.row(x, true, 5, 1, 2);
        // in their order: the latest step is the last clause
        due("undo", x.undo(), 7);
        due("maps", x.count(5), 5);
        for (int i = 6; i >= 4; i--) {
            due("undo", x.undo(), i);
        }
        due("modules", x.count(4), 2);
        due("undo", x.undo(), 3);
        due("modules", x.count(4), 1);
        due("maps", x.count(5), 2);
        due("told again, behind what is there", x.told(0), NONE);
        due("maps", x.count(5), 8);
        Edges.row(x, true, 2, 3);
        Edges.row(x, true, 3, 0, 0, 6);
    }

    @Says(at = "II", value = {"One that can't be (a NUMBER that is no REST, some TURNED on the way of DEGREE above 24, what is no MODULE or MAP, an 11th)",
        "a NUMBER that is no REST"})
    static void iiNumbersThatAreNoRests() {
        cannot("map 8;map 0+8;", NONE);
        cannot("map 9;", 0);
        cannot("map 8;map 9;", 1);
        cannot("map 10;", 0);
        cannot("map 9999;", 0);
        cannot("map 1;module t+9;", 1);
        cannot("map 9*0+1;", 0);
        cannot("map 0*9+1;", 0);
        cannot("map 9-9+1;", 0);
        cannot("map 9^0;", 0);
        cannot("map (1+9)^0;", 0);
        cannot("map -9;", 0);
        // the number of a power is none that must be a rest
        cannot("map t^7;map 2^9;map 2^24;", NONE);
        for (int[] w : Edges.WORLDS) {
            PowersForTimes x = Edges.at(w[0], w[1]);
            due("text", Edges.read(x, "map " + (w[2] - 1) + ";map " + w[2] + ";"), 0);
            due("N - 1 and N in " + w[0] + ", " + w[1], x.told(0), 1);
            Edges.row(x, true, 0, w[2] - 1);
        }
    }

    @Says(at = "II", value = "some TURNED on the way of DEGREE above 24")
    static void iiTurnedOnTheWay() {
        cannot("map t^24-t^24+1;", NONE);
        cannot("map t^24*1-t^24+1;", NONE);
        cannot("map t^23*t-t^24+1;", NONE);
        cannot("map t^24*t*0+1;", 0);
        cannot("map t*t^24*0+1;", 0);
        cannot("map (t^12)^2*0+1;", NONE);
        cannot("map (t^13)^2*0+1;", 0);
        cannot("map (t^8)^3*0+1;", NONE);
        cannot("map (t^5)^5*0+1;", 0);
        cannot("map (1+t)^24*0+1;", NONE);
        cannot("map (1+t)^24*(1+t)*0+1;", 0);
        cannot("map (t^24)^1*0+1;", NONE);
        cannot("map (t^24)^0;", NONE);
        cannot("map (t^24*t)^0;", 0);
        cannot("map (t^2)^24*0+1;", 0);
        // from the left: what is 0 by then has no degree
        cannot("map t^24*0*t+1;", NONE);
        cannot("map 0*t^24*t^24+1;", NONE);
        cannot("map (t-t)^24+1;", NONE);
        cannot("map 1;map 0*(t^24*t)+1;", 1);
    }

    @Says(at = "II", value = "what is no MODULE or MAP")
    static void iiNoModuleAndNoMap() {
        cannot("module 1+t;module t^2;module t^3;", NONE);
        cannot("module 8;", 0);
        cannot("module 0;", 0);
        cannot("module t-t+1;", 0);
        cannot("module t^3;module t^4;", 1);
        cannot("module t^3;module t^24;", 1);
        cannot("module t^4-t^4+t^3;", NONE);
        cannot("map 8;map t;map t^7;", NONE);
        cannot("map 1;map 0;", 1);
        cannot("map t-t;", 0);
        cannot("map 3*0;", 0);
        cannot("map t^7;map t^8;", 1);
        cannot("map t^24;", 0);
        cannot("map t^8-t^8+t^7;", NONE);
    }

    @Says(at = "II", value = "an 11th")
    static void iiAnEleventh() {
        cannot("map 1;".repeat(10), NONE);
        cannot("map 1;".repeat(11), 10);
        cannot("module t;".repeat(10), NONE);
        cannot("module t;".repeat(11), 10);
        cannot("map 1;".repeat(10) + "module t;".repeat(10), NONE);
        cannot("map 1;".repeat(10) + "module t;map 1;", 11);
        PowersForTimes x = Made.FULL_OF_MODULES.make();
        due("text", Edges.read(x, "map 1;module t;map 1;"), 1);
        due("an 11th module", x.told(1), 1);
        due("modules", x.count(4), 10);
        due("maps", x.count(5), 1);
        x = Made.FULL_OF_MAPS.make();
        due("text", Edges.read(x, "module t;map 1;module t;"), 1);
        due("an 11th map", x.told(1), 1);
        due("modules", x.count(4), 2);
        due("maps", x.count(5), 10);
    }

    @Says(at = "II", value = "ends it: its number (from 0); what was told stays.")
    static void iiWhatWasToldStays() {
        PowersForTimes x = Edges.at(2, 7);
        x.map(1, 1, 1);
        x.map(1, 0, 1);
        due("undo", x.undo(), 1);
        due("text", Edges.read(x, "map 2;module 3+t;map 4;map 3;module t;"), 0);
        due("told", x.told(0), 2);
        due("steps", x.count(7), 3);
        due("maps", x.count(5), 2);
        due("modules", x.count(4), 1);
        Edges.row(x, true, 1, 2);
        Edges.row(x, false, 0, 3, 1);
        due("what was undone is gone", x.count(8), 0);
        due("redo", x.redo(), NONE);
        due("undo", x.undo(), 2);
        due("undo", x.undo(), 1);
        due("redo", x.redo(), 2);
        due("redo", x.redo(), 3);
        Edges.row(x, false, 0, 3, 1);
        // the same text tells all of it where 4 is a rest
        due("world", x.world(2, 11), 8);
        due("told", x.told(0), NONE);
        due("steps", x.count(7), 5);
    }

    // ---- promises 7 to 11

    @Says(at = "Promise 7", value = "Twenty bytes come behind the tape, the highest of a first: how many it has.")
    static void p07FeedTwentyBytes() {
        // one strange byte among blanks tells at which place it came
        for (int place = 0; place < 20; place++) {
            for (int strange : new int[] {1, 127, 128, 255}) {
                byte[] b = new byte[20];
                java.util.Arrays.fill(b, (byte) 32);
                b[place] = (byte) strange;
                PowersForTimes x = new PowersForTimes();
                due("feed", x.feed(Due.four(b, 0), Due.four(b, 4), Due.four(b, 8), Due.four(b, 12), Due.four(b, 16)), 20);
                due("text", x.text(), NONE);
                due("the strange byte's place", x.fault(1), place);
            }
        }
        PowersForTimes x = new PowersForTimes();
        for (int i = 1; i <= 15; i++) {
            due("bytes", x.feed(LEAST, MOST, -1, 0, 1), 20 * i);
            due("count", x.count(9), 20 * i);
        }
        x = Edges.at(2, 7);
        // behind what is there: "map 1+" and "2;"
        due("feed", x.feed(0x6d617020, 0x312b0000, 0, 0, 0), 20);
        due("end", x.end(6), 6);
        due("feed", x.feed(0x323b2020, 0x20202020, 0x20202020, 0x20202020, 0x20202020), 26);
        due("text", x.text(), 0);
        due("told", x.told(0), NONE);
        Edges.row(x, true, 0, 3);
    }

    @Says(at = "Promise 7", value = "NONE, and none come, if there would be more than 300.")
    static void p07FeedNoneComeAboveThreeHundred() {
        Edges.Call feed = x -> x.feed(0x20202020, 0x20202020, 0x20202020, 0x20202020, 0x20202020);
        PowersForTimes x = new PowersForTimes();
        for (int length = 275; length <= 300; length++) {
            Due.put(x, " ".repeat(length));
            due("feed behind " + length, feed.on(x), length <= 280 ? length + 20 : NONE);
            due("bytes", x.count(9), length <= 280 ? length + 20 : length);
        }
        due("end", x.end(279), 279);
        due("feed", feed.on(x), 299);
        due("feed", feed.on(x), NONE);
        due("bytes", x.count(9), 299);
        Edges.refused("feed", NONE, y -> y.feed(LEAST, MOST, 0x24242424, 0, 1), Made.FULL_OF_BYTES);
        // of the twenty that don't come, none is there when the tape is read
        for (int length = 281; length <= 300; length++) {
            PowersForTimes y = new PowersForTimes();
            Due.put(y, " ".repeat(length - 6) + "map 1;");
            due("feed", y.feed(0x24242424, 0x24242424, 0x24242424, 0x24242424, 0x24242424), NONE);
            due("text of " + length, y.text(), 0);
            due("told", y.told(0), NONE);
        }
    }

    @Says(at = "Promise 8", value = "The tape has its first n bytes alone: n.")
    static void p08EndLeavesTheFirstBytes() {
        PowersForTimes x = Edges.at(2, 7);
        due("nothing of nothing", x.end(0), 0);
        Due.put(x, "map 3;map 2;map 1;");
        due("all", x.end(18), 18);
        due("all but one", x.end(17), 17);
        due("bytes", x.count(9), 17);
        due("two clauses", x.end(12), 12);
        due("text", x.text(), 0);
        due("told", x.told(0), NONE);
        due("maps", x.count(5), 2);
        Due.put(x, "map 3;$$$$$$$$$$$$$$");
        due("end", x.end(5), 5);
        due("what was behind is gone", x.end(6), NONE);
        due("feed", x.feed(0x3b202020, 0x20202020, 0x20202020, 0x20202020, 0x20202020), 25);
        due("text", x.text(), 1);
        Due.put(x, "$".repeat(300));
        due("end", x.end(300), 300);
        due("end", x.end(0), 0);
        due("bytes", x.count(9), 0);
        due("an empty text", x.text(), 2);
    }

    @Says(at = "Promise 8", value = "NONE, and nothing is done, if it has not so many, or n is below 0.")
    static void p08EndNothingIsDone() {
        PowersForTimes x = new PowersForTimes();
        due("1 of 0", x.end(1), NONE);
        Due.put(x, "map 1;");
        for (int bad : new int[] {7, 8, 300, 301, MOST, -1, -2, -6, LEAST}) {
            due("end(" + bad + ")", x.end(bad), NONE);
            due("bytes", x.count(9), 6);
            Edges.refused("end(" + bad + ")", NONE, y -> y.end(bad), Made.NEW, Made.FULL_OF_TEXTS);
        }
        due("end(6)", x.end(6), 6);
        due("text", x.text(), 0);
        Edges.refused("end(301)", NONE, y -> y.end(301), Made.values());
        Edges.refused("end(-1)", NONE, y -> y.end(-1), Made.values());
    }

    @Says(at = "Promise 9", value = "The tape (empty then) is a TEXT: its number.")
    static void p09TextEmptiesTheTape() {
        PowersForTimes x = Edges.at(2, 7);
        for (int i = 0; i < 4; i++) {
            Due.put(x, "map " + i + "+t;");
            due("text", x.text(), i);
            due("the tape is empty", x.count(9), 0);
            due("nothing is there any more", x.end(1), NONE);
            due("texts", x.count(6), i + 1);
        }
        for (int i = 3; i >= 0; i--) {
            due("told", x.told(i), NONE);
            Edges.row(x, true, 3 - i, i, 1);
        }
        // it is a text of its own: what comes on the tape later is not in it
        x = Edges.at(2, 7);
        Due.put(x, "map 1;");
        due("text", x.text(), 0);
        Due.put(x, "map 2;map 3;");
        due("told", x.told(0), NONE);
        due("maps", x.count(5), 1);
        Edges.row(x, true, 0, 1);
        due("text", x.text(), 1);
        due("told", x.told(0), NONE);
        Edges.row(x, true, 1, 1);
    }

    @Says(at = "Promise 9", value = "NONE: it has a FAULT;")
    static void p09TextWithAFault() {
        PowersForTimes x = Edges.at(2, 7);
        due("text", Edges.read(x, "map 3;"), 0);
        for (String bad : new String[] {"map", "map 10000;", "map (((((((((1", "map 1;".repeat(21)}) {
            Due.put(x, bad);
            due("text", x.text(), NONE);
            due("the tape is empty then, too", x.count(9), 0);
            due("texts", x.count(6), 1);
            due("told(1)", x.told(1), -2);
        }
        due("told(0)", x.told(0), NONE);
        Edges.row(x, true, 0, 3);
        due("the next has the number", Edges.read(x, "map 2;"), 1);
        // but for the tape and the latest fault all stays, what was undone and the image, too
        for (Made state : Made.values()) {
            Edges.same(state, y -> NONE, y -> Edges.read(y, "map 2;module t;map 1;map"));
        }
    }

    @Says(at = "Promise 9", value = "or (the tape stays) there are 4.")
    static void p09TextTheTapeStays() {
        PowersForTimes x = Made.FULL_OF_TEXTS.make();
        due("texts", x.count(6), 4);
        Edges.refused("a fifth", NONE, y -> y.text(), Made.FULL_OF_TEXTS);
        for (int length : new int[] {0, 1, 6, 300}) {
            Due.put(x, " ".repeat(length));
            due("a fifth", x.text(), NONE);
            due("bytes", x.count(9), length);
            due("fault", x.fault(0), 0);
        }
        Due.put(x, "$");
        due("a fifth", x.text(), NONE);
        due("the tape stays", x.count(9), 1);
        due("texts", x.count(6), 4);
        // what stays on the tape was not read: the latest fault stays, too
        due("no fault yet", x.fault(0), 0);
        due("no place yet", x.fault(1), NONE);
        PowersForTimes y = Edges.at(2, 7);
        for (int i = 0; i < 3; i++) {
            due("text", Edges.read(y, "map 1;"), i);
        }
        due("with a fault, and three texts", Edges.read(y, "map t^25;"), NONE);
        due("the tape is empty", y.count(9), 0);
        due("back", y.back(), 0);
        due("texts", y.count(6), 0);
        for (int i = 0; i < 4; i++) {
            due("text", Edges.read(y, "map 1;"), i);
        }
        due("image, with four texts", y.image(), 0);
        due("a fifth with a fault", Edges.read(y, "map t^25;"), NONE);
        due("the tape stays", y.count(9), 9);
        due("the fault of the fourth", y.fault(0), 0);
        due("back", y.back(), 0);
        due("the tape stays", y.count(9), 9);
        due("still four", y.text(), NONE);
        due("its place", y.fault(1), NONE);
        // with room again, what stayed is read
        Due.put(x, "map 3;");
        due("a fifth", x.text(), NONE);
        due("back to one text", x.back(), 1);
        due("texts", x.count(6), 1);
        due("text", x.text(), 1);
        due("told", x.told(1), NONE);
        Edges.row(x, true, 0, 3);
    }

    @Says(at = "Promise 10", value = "Of the latest text that was read: 0 its FAULT (0 without), 1 its place (NONE without).")
    static void p10FaultOfTheLatest() {
        PowersForTimes x = new PowersForTimes();
        due("text", Edges.read(x, "map 10000;"), NONE);
        due("fault", x.fault(0), 2);
        due("place", x.fault(1), 4);
        due("text", Edges.read(x, "map 1;"), 0);
        due("without", x.fault(0), 0);
        due("without", x.fault(1), NONE);
        due("text", Edges.read(x, "$"), NONE);
        due("fault", x.fault(0), 1);
        due("at the first byte", x.fault(1), 0);
        due("text", Edges.read(x, "map ((((((((("), NONE);
        due("fault", x.fault(0), 3);
        due("place", x.fault(1), 12);
        due("text", Edges.read(x, "map 1;".repeat(21)), NONE);
        due("fault", x.fault(0), 4);
        due("place", x.fault(1), 120);
        due("text", Edges.read(x, " ".repeat(295) + "map 1"), NONE);
        due("fault", x.fault(0), 1);
        due("of the end", x.fault(1), 300);
        // a tape that is not read yet, a text that is told, another world, and the like tell nothing of it
        Due.put(x, "map 10000;");
        x.told(0);
        x.world(3, 10);
        x.image();
        x.back();
        x.undo();
        due("fault", x.fault(0), 1);
        due("place", x.fault(1), 300);
        due("text", Edges.read(x, ""), 1);
        due("without", x.fault(0), 0);
        due("without", x.fault(1), NONE);
    }

    @Says(at = "Promise 10", value = "NONE for others, and ahead of any.")
    static void p10FaultOfOthers() {
        PowersForTimes x = new PowersForTimes();
        for (int round = 0; round < 3; round++) {
            for (int bad : new int[] {-1, 2, 3, 4, LEAST, MOST}) {
                due("fault(" + bad + ")", x.fault(bad), NONE);
            }
            due("fault(0)", x.fault(0), round == 0 ? NONE : round == 1 ? 0 : 2);
            due("fault(1)", x.fault(1), round < 2 ? NONE : 4);
            Edges.read(x, round == 0 ? "map 1;" : "map 10000;");
        }
        x = new PowersForTimes();
        Due.put(x, "$");
        due("on the tape, but not read", x.fault(0), NONE);
        due("on the tape, but not read", x.fault(1), NONE);
        for (int bad : new int[] {-1, 2}) {
            Edges.refused("fault(" + bad + ")", NONE, y -> y.fault(bad), Made.NEW, Made.RICH);
        }
    }

    @Says(at = "Promise 11", value = "TOLD by a TEXT: NONE: all is; else the number of the CLAUSE that can't be.")
    static void p11Told() {
        PowersForTimes x = Edges.at(2, 7);
        due("of no clause", Edges.read(x, ""), 0);
        due("told", x.told(0), NONE);
        due("steps", x.count(7), 0);
        due("text", Edges.read(x, "map 4;"), 1);
        due("the first can't be", x.told(1), 0);
        due("text", Edges.read(x, "map 1;map 2;map 4;"), 2);
        due("the last can't be", x.told(2), 2);
        due("maps", x.count(5), 2);
        due("text", Edges.read(x, "map 1;module t;".repeat(9) + "module t;map 9999;"), 3);
        x.world(2, 7);
        due("the 20th can't be", x.told(3), 19);
        due("modules", x.count(4), 10);
        due("maps", x.count(5), 9);
        due("now the 2nd can't be: it has the last place ahead", x.told(3), 1);
        due("maps", x.count(5), 10);
        due("now the first", x.told(3), 0);
    }

    @Says(at = "Promise 11", value = "TOLD by a TEXT:")
    static void p11ToldWhatCannotBeChangesNothing() {
        // the first clause can't be, or there is none: nothing is told, and what was undone can still be done again
        Edges.refused("told of what is no module", 0, x -> x.told(2), Made.FULL_OF_TEXTS);
        Edges.refused("told of an 11th", 0, x -> x.told(0), Made.FULL_OF_MAPS, Made.FULL_OF_BOTH);
        PowersForTimes x = Made.RICH.make();
        due("undone", x.count(8), 2);
        due("text", Edges.read(x, " "), 2);
        due("told", x.told(2), NONE);
        due("undone", x.count(8), 2);
        due("redo", x.redo(), x.count(7));
        for (String bad : new String[] {"map 9999;map 1;", "module 1;", "map 0;map 1;", "map t^24*t;"}) {
            PowersForTimes y = Made.FULL_OF_MODULES.make();
            PowersForTimes z = Made.FULL_OF_MODULES.make();
            due("text", Edges.read(y, bad), 1);
            due("text", Edges.read(z, bad), 1);
            due("told", y.told(1), 0);
            for (int i = 0; i < 10; i++) {
                due("count(" + i + ")", y.count(i), z.count(i));
            }
            due("redo", y.redo(), z.redo());
            due("redo", y.redo(), NONE);
            Edges.row(y, true, 0, 3, 2);
        }
    }

    @Says(at = "Promise 11", value = "-2 for others.")
    static void p11ToldOfOthers() {
        PowersForTimes x = new PowersForTimes();
        for (int texts = 0; texts <= 4; texts++) {
            for (int text = 0; text < 6; text++) {
                due("told(" + text + ") of " + texts, x.told(text), text < texts ? NONE : -2);
            }
            for (int bad : new int[] {-1, -2, LEAST, MOST}) {
                due("told(" + bad + ")", x.told(bad), -2);
            }
            if (texts < 4) {
                due("text", Edges.read(x, ""), texts);
            }
        }
        for (int bad : new int[] {-1, 4, LEAST, MOST}) {
            Edges.refused("told(" + bad + ")", -2, y -> y.told(bad), Made.values());
        }
        Edges.refused("told(2)", -2, y -> y.told(2), Made.RICH);
        Edges.refused("told(1)", -2, y -> y.told(1), Made.FULL_OF_BYTES);
        Edges.refused("told(0)", -2, y -> y.told(0), Made.NEW);
    }
}
