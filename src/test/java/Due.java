/** Counts the answers that are not as due, and says each of them. */
final class Due {
    private static int wrong = 0;
    private static int asked = 0;
    private static String test = "";

    private Due() { }

    /** What is said from now on is said of this test. */
    static void start(String name) {
        test = name + ": ";
    }

    static void due(String call, long got, long want) {
        asked++;
        if (got != want) {
            wrong++;
            if (wrong <= 40) {
                System.out.println(test + call + " answered " + got + ", due is " + want);
            }
        }
    }

    static void holds(String what, boolean is) {
        asked++;
        if (!is) {
            wrong++;
            if (wrong <= 40) {
                System.out.println(test + what + " does not hold");
            }
        }
    }

    static void finish() {
        System.out.println(wrong == 0 ? asked + " answers are as due" : wrong + " of " + asked + " answers are not as due");
        if (wrong != 0) {
            System.exit(1);
        }
    }

    /** Puts a text on the empty tape, by feeds and one end. */
    static void put(PowersForTimes x, String text) {
        due("end(0)", x.end(0), 0);
        byte[] bytes = new byte[(text.length() + 19) / 20 * 20];
        for (int i = 0; i < text.length(); i++) {
            bytes[i] = (byte) text.charAt(i);
        }
        for (int i = 0; i < bytes.length; i += 20) {
            x.feed(four(bytes, i), four(bytes, i + 4), four(bytes, i + 8), four(bytes, i + 12), four(bytes, i + 16));
        }
        due("end(" + text.length() + ")", x.end(text.length()), text.length());
    }

    static int four(byte[] b, int i) {
        return (b[i] & 255) << 24 | (b[i + 1] & 255) << 16 | (b[i + 2] & 255) << 8 | b[i + 3] & 255;
    }
}
