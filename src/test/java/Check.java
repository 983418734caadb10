/** What the tests share: it counts the answers that are not as due, and prints each. */
final class Check {
    interface Call {
        void go();
    }

    private static int wrong = 0;
    private static String sentence = "";

    private Check() {
    }

    /** Names the words of the document that the answers from here on are due by. */
    static void says(String words) {
        sentence = words;
    }

    static void due(String what, long got, long due) {
        if (got != due) {
            tell(what + " answered " + got + ", due is " + due);
        }
    }

    static void dueFloat(String what, float got, float due) {
        if (Float.floatToIntBits(got) != Float.floatToIntBits(due)) {
            tell(what + " answered " + got + ", due is " + due);
        }
    }

    static void dueText(String what, String got, String due) {
        if (!got.equals(due)) {
            tell(what + " answered\n  " + got + ", due is\n  " + due);
        }
    }

    private static void dueThrow(String what, Class<?> due, Call call) {
        Class<?> got = null;
        try {
            call.go();
        } catch (RuntimeException e) {
            got = e.getClass();
        }
        if (got != due) {
            tell(what + " threw " + got + ", due is " + due);
        }
    }

    static void noSuch(String what, Call call) {
        dueThrow(what, IndexOutOfBoundsException.class, call);
    }

    static void badArgument(String what, Call call) {
        dueThrow(what, IllegalArgumentException.class, call);
    }

    static void badState(String what, Call call) {
        dueThrow(what, IllegalStateException.class, call);
    }

    static void tell(String text) {
        wrong++;
        System.out.println(sentence.isEmpty() ? text : "\"" + sentence + "\": " + text);
    }

    static void end() {
        if (wrong != 0) {
            System.out.println(wrong + " answers are not as due");
            System.exit(1);
        }
    }

    /** Makes a field with these corners, x and y by turns. */
    static int make(Stitchpath path, int colour, int layer, boolean column, int... places) {
        int number = path.field(colour, layer, column);
        for (int i = 0; i < places.length; i += 2) {
            path.corner(number, places[i], places[i + 1]);
        }
        return number;
    }

    /** All commands as a text: S, J with differences, T, P for a STOP, E. */
    static String commandsOf(Stitchpath path) {
        StringBuilder text = new StringBuilder();
        for (int i = 0; i < path.commands(); i++) {
            int kind = path.ofCommand(i, 0);
            text.append(i == 0 ? "" : " ").append("SJTPE".charAt(kind));
            if (kind == Stitchpath.STITCH || kind == Stitchpath.JUMP) {
                text.append(path.ofCommand(i, 1)).append(',').append(path.ofCommand(i, 2));
            } else if (path.ofCommand(i, 1) != 0 || path.ofCommand(i, 2) != 0) {
                text.append("with a difference");
            }
        }
        return text.toString();
    }

    /** The places that the needle is moved to for a field, in their order. */
    static String pointsOf(Stitchpath path, int field) {
        StringBuilder text = new StringBuilder();
        int x = 0;
        int y = 0;
        for (int i = 0; i < path.commands(); i++) {
            x += path.ofCommand(i, 1);
            y += path.ofCommand(i, 2);
            if (path.ofCommand(i, 3) == field) {
                text.append(text.length() == 0 ? "" : " ").append(x).append(',').append(y);
            }
        }
        return text.toString();
    }

    /** A column whose corners are all one place, so that it has one needle point. */
    static int point(Stitchpath path, int colour, int layer, int x, int y) {
        return make(path, colour, layer, true, x, y, x, y, x, y, x, y);
    }

    /** A field of four corners, from its least place to its greatest one. */
    static int box(Stitchpath path, int leastX, int leastY, int greatestX, int greatestY) {
        return make(path, 0, 0, false, leastX, leastY, greatestX, leastY, greatestX, greatestY, leastX, greatestY);
    }

    /** The fields of all commands, a minus for NONE. */
    static String ownersOf(Stitchpath path) {
        StringBuilder text = new StringBuilder();
        for (int i = 0; i < path.commands(); i++) {
            int owner = path.ofCommand(i, 3);
            text.append(owner == Stitchpath.NONE ? "-" : String.valueOf(owner));
        }
        return text.toString();
    }

    static String bytesOf(Stitchpath path, int length) {
        StringBuilder text = new StringBuilder();
        for (int i = 0; i < length; i++) {
            text.append(i == 0 ? "" : " ").append(path.byteAt(i));
        }
        return text.toString();
    }
}
