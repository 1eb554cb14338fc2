/** Objects in states that a call must leave as they are; each time one is asked for, it is made anew. */
enum Made {
    /** As the constructor leaves it. */
    NEW {
        @Override
        PowersForTimes make() {
            return new PowersForTimes();
        }
    },

    /** Something of everything: an image that is unlike, steps undone, two texts, a fault, a tape. World 3, 10; 9 rests. */
    RICH {
        @Override
        PowersForTimes make() {
            PowersForTimes x = new PowersForTimes();
            x.world(2, 11);
            text(x, "map 5;");
            x.module(2, 1, 0, 0);
            x.map(3, 2, 0);
            x.map(2, 0, 1);
            x.undo();
            x.image();
            x.world(3, 10);
            text(x, "module 3+t;map t^2+1;");
            x.module(3, 1, 0, 0);
            x.module(1, 0, 1, 0);
            x.map(2, 1, 0);
            x.told(1);
            x.module(4, 5, 6, 7);
            x.map(0, 0, 8);
            x.undo();
            x.undo();
            text(x, "map 1 + 10000;");
            Due.put(x, "map 4*t;module 1+5*t;");
            return x;
        }
    },

    /** Ten modules, and a map that is undone. World 2, 7; 4 rests. */
    FULL_OF_MODULES {
        @Override
        PowersForTimes make() {
            PowersForTimes x = started();
            for (int i = 0; i < 10; i++) {
                x.module(i % 4, 1 + i % 3, i % 2, 0);
            }
            x.map(3, 2, 0);
            x.undo();
            return x;
        }
    },

    /** Ten maps, and a module that is undone, behind one that is not. World 2, 7; 4 rests. */
    FULL_OF_MAPS {
        @Override
        PowersForTimes make() {
            PowersForTimes x = started();
            x.module(2, 1, 1, 0);
            for (int i = 0; i < 10; i++) {
                x.map(i % 4, 1 + i % 3, 0);
            }
            x.module(3, 2, 0, 0);
            x.undo();
            return x;
        }
    },

    /** Ten of both. World 2, 7; 4 rests. */
    FULL_OF_BOTH {
        @Override
        PowersForTimes make() {
            PowersForTimes x = started();
            for (int i = 0; i < 10; i++) {
                x.map(i % 4, 1 + i % 3, 0);
                x.module(i % 4, 1 + i % 3, 0, 0);
            }
            return x;
        }
    },

    /** Four texts, a step undone, and a text on the tape that would have no fault. World 2, 7; 4 rests. */
    FULL_OF_TEXTS {
        @Override
        PowersForTimes make() {
            PowersForTimes x = started();
            text(x, "map 2;");
            text(x, "map (;");
            text(x, "module 1;");
            text(x, "map t;map 3;module 1+t;");
            x.module(2, 1, 0, 0);
            x.map(1, 2, 0);
            x.undo();
            Due.put(x, "map 1;");
            return x;
        }
    },

    /** Three hundred bytes on the tape, a text without a fault to the last byte. World 2, 7; 4 rests. */
    FULL_OF_BYTES {
        @Override
        PowersForTimes make() {
            PowersForTimes x = started();
            x.map(3, 0, 0);
            x.undo();
            Due.put(x, "map 2*t;" + " ".repeat(283) + "module t;");
            return x;
        }
    };

    abstract PowersForTimes make();

    private static PowersForTimes started() {
        PowersForTimes x = new PowersForTimes();
        x.world(2, 7);
        text(x, "map t+1;");
        x.module(1, 3, 0, 0);
        x.map(3, 3, 0);
        x.undo();
        x.image();
        x.undo();
        return x;
    }

    private static void text(PowersForTimes x, String text) {
        Due.put(x, text);
        x.text();
    }
}
