/** Promises 14 to 19 and the term FORMATS: a test for each sentence that names an edge. */
public final class FileEdgesTest {
    private static final int[] FAR = {Integer.MIN_VALUE, -256, 1 << 16, Integer.MAX_VALUE};
    private static final int SHORT = Stitchpath.SHORT;
    private static final int LONG = Stitchpath.LONG;

    public static void main(String[] args) {
        formats();
        shortCommands();
        longCommands();
        endAlone();
        cutsShort();
        cutsBothDifferences();
        longestJumps();
        neverCutsLong();
        sumOfAllAhead();
        sumComesRound();
        inPlaceOfOne();
        fileStaysAsItIs();
        places();
        damages();
        lengths();
        lengthsWithoutFile();
        kindsAboveFour();
        oneByteAlone();
        differencesAboveShort();
        differencesAboveLong();
        differencesOfOthers();
        endsEarly();
        endsWithinLong();
        firstOfSeveral();
        notThatSum();
        oneBehindTheSum();
        noneOrNoFile();
        readsInAll();
        readsAheadOfFault();
        readsWholeStitchesAlone();
        Check.end();
    }

    /** A file of one JUMP and END: 5 bytes in SHORT, 7 in LONG. */
    private static Stitchpath jumpTo(int x, int y, int format) {
        Stitchpath p = new Stitchpath();
        p.bound(100);
        Check.point(p, 0, 0, x, y);
        p.write(format);
        return p;
    }

    /** A file of JUMP 1, 1; STITCHes 2, 3, -2, -3 and 2, 3; STOP; TRIM; JUMP 1, 9; END. */
    private static Stitchpath all(int format) {
        Stitchpath p = new Stitchpath();
        Check.make(p, 0, 0, true, 1, 1, 1, 1, 3, 4, 3, 4);
        p.sew(0, 8, 6, 0, 0, false);
        Check.point(p, 1, 0, 4, 13);
        p.write(format);
        return p;
    }

    private static int sumAhead(Stitchpath p, int place) {
        int sum = 0;
        for (int i = 0; i < place; i++) {
            sum += p.byteAt(i);
        }
        return sum;
    }

    // ---- promise 14

    private static void formats() {
        Check.says("`format`: SHORT or LONG");
        Stitchpath p = new Stitchpath();
        Check.badArgument("format -1", () -> p.write(-1));
        Check.badArgument("format 2", () -> p.write(2));
        for (int far : FAR) {
            Check.badArgument("format " + far, () -> p.write(far));
        }
        Check.noSuch("no file was written", () -> p.byteAt(0));
        Check.due("SHORT", p.write(0), 3);
        Check.badArgument("format 2", () -> p.write(2));
        Check.dueText("the file is kept", Check.bytesOf(p, 3), "144 16 160");
        Check.due("LONG", p.write(1), 4);
    }

    private static void shortCommands() {
        Check.says("SHORT has two bytes for a command: 32 times the kind, and the difference of x and 16, together;"
                + " the difference of y and 16.");
        Stitchpath p = all(SHORT);
        Check.due("length", p.write(SHORT), 17);
        Check.dueText("bytes", Check.bytesOf(p, 16), "49 17 18 19 14 13 18 19 112 16 80 16 49 25 144 16");
        Check.due("sum", p.byteAt(16), sumAhead(p, 16) % 256);
        // The greatest differences of both kinds that have some.
        Stitchpath q = new Stitchpath();
        Check.make(q, 0, 0, true, 12, 12, 12, 12, 0, 0, 0, 0);
        q.sew(0, 8, 6, 0, 0, false);
        q.bound(100);
        q.write(SHORT);
        Check.dueText("12 and -12", Check.bytesOf(q, 10), "60 28 4 4 28 28 4 4 144 16");
    }

    private static void longCommands() {
        Check.says("LONG has three: the kind, the difference of x and 128, that of y and 128.");
        Stitchpath p = all(LONG);
        Check.due("length", p.write(LONG), 25);
        Check.dueText("bytes", Check.bytesOf(p, 24), "1 129 129 0 130 131 0 126 125 0 130 131 3 128 128 "
                + "2 128 128 1 129 137 4 128 128");
        Check.due("sum", p.byteAt(24), sumAhead(p, 24) % 256);
    }

    private static void endAlone() {
        Check.says("Writes the commands into a file, in place of one.");
        Stitchpath p = new Stitchpath();
        Check.due("END in SHORT", p.write(SHORT), 3);
        Check.dueText("END in SHORT", Check.bytesOf(p, 3), "144 16 160");
        Check.due("END in LONG", p.write(LONG), 4);
        Check.dueText("END in LONG", Check.bytesOf(p, 4), "4 128 128 4");
    }

    private static void cutsShort() {
        Check.says("A JUMP that is longer is written as n JUMPs, n the fewest that can do");
        int[] jumps = {1, 12, 13, 24, 25, 31};
        String[] due = {"49 16", "60 16", "54 16 55 16", "60 16 60 16", "56 16 56 16 57 16", "58 16 58 16 59 16"};
        String[] down = {"48 17", "48 28", "48 22 48 23", "48 28 48 28", "48 24 48 24 48 25", "48 26 48 26 48 27"};
        for (int i = 0; i < jumps.length; i++) {
            int bytes = due[i].split(" ").length;
            Stitchpath p = jumpTo(jumps[i], 0, SHORT);
            Check.due("length with " + jumps[i], p.shorten(0), bytes + 3);
            p.write(SHORT);
            Check.dueText("to the right by " + jumps[i], Check.bytesOf(p, bytes), due[i]);
            Stitchpath q = jumpTo(0, jumps[i], SHORT);
            Check.due("length down " + jumps[i], q.shorten(0), bytes + 3);
            q.write(SHORT);
            Check.dueText("down by " + jumps[i], Check.bytesOf(q, bytes), down[i]);
        }
    }

    private static void cutsBothDifferences() {
        Check.says("the step j of n goes to the differences times j, divided by n, rounded down, from where it began.");
        Stitchpath p = jumpTo(31, 5, SHORT);
        // 5 by 3 goes to 1, 3, 5.
        Check.dueText("31, 5", Check.bytesOf(p, 6), "58 17 58 18 59 18");
        Stitchpath q = jumpTo(4, 26, SHORT);
        // 4 by 3 goes to 1, 2, 4; 26 to 8, 17, 26.
        Check.dueText("4, 26", Check.bytesOf(q, 6), "49 24 49 25 50 25");
        Stitchpath r = new Stitchpath();
        r.bound(100);
        Check.point(r, 0, 0, 31, 12);
        Check.point(r, 0, 1, 0, 8);
        r.write(SHORT);
        // -31 by 3 goes to -11, -21, -31, and -4 to -2, -3, -4.
        Check.dueText("-31, -4", Check.bytesOf(r, 12).substring(18), "37 14 38 15 38 15");
    }

    private static void longestJumps() {
        Check.says("A JUMP that is longer is written as n JUMPs, n the fewest that can do");
        Stitchpath p = new Stitchpath();
        for (int i = 0; i < 2; i++) {
            Check.box(p, 0, 1, 31, 2);
            p.sew(i, 8, 12, 0, 3, false);
        }
        p.bound(100);
        Check.dueText("from 34 to -3", Check.commandsOf(p),
                "J-3,1 S3,0 S12,0 S12,0 S10,0 J-37,0 S3,0 S12,0 S12,0 S10,0 E");
        Check.due("length", p.write(SHORT), 2 * 14 + 1);
        // -37 by 4 goes to -10, -19, -28, -37.
        Check.dueText("-37", Check.bytesOf(p, 18).substring(30), "38 16 39 16 39 16 39 16");
        Check.due("fault", p.fault(), Stitchpath.NONE);
    }

    private static void neverCutsLong() {
        Check.says("A format has a limit for both differences of a command, without sign: SHORT 12, LONG 121.");
        Stitchpath p = jumpTo(31, 31, LONG);
        Check.due("length", p.shorten(7), 7);
        Check.dueText("31, 31", Check.bytesOf(p, 7), "1 159 159 4 128 128 67");
    }

    private static void sumOfAllAhead() {
        Check.says("Behind END comes a byte: the sum of all ahead of it, modulo 256.");
        for (int x = 0; x < 32; x++) {
            for (int format = 0; format < 2; format++) {
                Stitchpath p = jumpTo(x, 31 - x / 2, format);
                int place = p.write(format) - 1;
                Check.due("sum with " + x, p.byteAt(place), sumAhead(p, place) % 256);
                Check.due("fault with " + x, p.fault(), Stitchpath.NONE);
            }
        }
    }

    private static void sumComesRound() {
        Check.says("Behind END comes a byte: the sum of all ahead of it, modulo 256.");
        Stitchpath p = new Stitchpath();
        Check.make(p, 0, 0, true, 15, 30, 15, 30, 2, 30, 2, 30);
        p.sew(0, 8, 6, 0, 0, false);
        p.bound(100);
        Check.due("length", p.write(SHORT), 21);
        Check.due("thrice 256", sumAhead(p, 20), 768);
        Check.due("is 0", p.byteAt(20), 0);
        Check.due("and no fault", p.fault(), Stitchpath.NONE);
        Stitchpath q = jumpTo(0, 9, LONG);
        q.damage(1, 114);
        // 1, 114, 137 and 4, 128, 128 are 512.
        Check.due("the sum is another one", q.fault(), 6);
        q.damage(6, 0);
        Check.due("twice 256 is 0", q.fault(), Stitchpath.NONE);
        q.damage(1, 113);
        Check.due("511 is not 0", q.fault(), 6);
        q.damage(6, 255);
        Check.due("511 is 255", q.fault(), Stitchpath.NONE);
    }

    private static void inPlaceOfOne() {
        Check.says("Writes the commands into a file, in place of one.");
        Stitchpath p = all(LONG);
        p.damage(0, 255);
        p.shorten(3);
        Check.due("a new one", p.write(LONG), 25);
        Check.due("without damage", p.fault(), Stitchpath.NONE);
        Check.due("a shorter one", p.write(SHORT), 17);
        Check.noSuch("is not longer", () -> p.byteAt(17));
        Check.due("and read as SHORT", p.fault(), Stitchpath.NONE);
        Check.due("a longer one", p.write(LONG), 25);
        Check.due("read as LONG", p.reads(), 3);
    }

    private static void fileStaysAsItIs() {
        Check.says("Writes the commands into a file, in place of one.");
        Stitchpath p = all(SHORT);
        String before = Check.bytesOf(p, 17);
        p.sew(0, 1, 1, 0, 0, false);
        p.scale(1, 10);
        p.corner(p.field(0, 0, false), 1, 1);
        p.bound(0);
        p.start(1, 0);
        p.run(1000);
        Check.dueText("the commands are others", Check.commandsOf(p), "T J0,1 P T J1,0 S2,3 S-2,-3 S2,3 E");
        Check.dueText("the file is as it was written", Check.bytesOf(p, 17), before);
        Check.due("its length", p.shorten(17), 17);
        Check.due("its STITCHes", p.reads(), 3);
    }

    // ---- promises 15 and 16

    private static void places() {
        Check.says("Throws `IndexOutOfBoundsException` if there is no such byte");
        Stitchpath p = new Stitchpath();
        Check.noSuch("byteAt without a file", () -> p.byteAt(0));
        Check.noSuch("damage without a file", () -> p.damage(0, 0));
        p.write(SHORT);
        int[] none = {-1, 3, 4, Integer.MIN_VALUE, Integer.MAX_VALUE};
        for (int place : none) {
            Check.noSuch("byteAt " + place, () -> p.byteAt(place));
            Check.noSuch("damage " + place, () -> p.damage(place, 1));
        }
        Check.due("the first one", p.byteAt(0), 144);
        Check.due("the last one", p.byteAt(2), 160);
        p.shorten(2);
        Check.noSuch("byteAt behind a shorter one", () -> p.byteAt(2));
        Check.noSuch("damage behind a shorter one", () -> p.damage(2, 0));
        Check.due("its last one", p.byteAt(1), 16);
        p.shorten(0);
        Check.noSuch("byteAt of an empty one", () -> p.byteAt(0));
        Check.noSuch("damage of an empty one", () -> p.damage(0, 0));
    }

    private static void damages() {
        Check.says("`value`: 0 to 255");
        Stitchpath p = all(SHORT);
        Check.badArgument("value -1", () -> p.damage(0, -1));
        Check.badArgument("value 256", () -> p.damage(0, 256));
        for (int far : FAR) {
            Check.badArgument("value " + far, () -> p.damage(0, far));
        }
        Check.due("not damaged", p.byteAt(0), 49);
        Check.due("value 255", p.damage(0, 255), 49);
        Check.due("is 255", p.byteAt(0), 255);
        Check.due("value 0", p.damage(0, 0), 255);
        Check.due("is 0", p.byteAt(0), 0);
        Check.due("value 0 again", p.damage(0, 0), 0);
        Check.due("the last byte", p.damage(16, 255), sumAhead(all(SHORT), 16) % 256);
        Check.due("its neighbour is as it was", p.byteAt(15), 16);
    }

    // ---- promise 17

    private static void lengths() {
        Check.says("`length`: 0 to its length");
        Stitchpath p = all(SHORT);
        Check.badArgument("length -1", () -> p.shorten(-1));
        Check.badArgument("length 18", () -> p.shorten(18));
        for (int far : FAR) {
            Check.badArgument("length " + far, () -> p.shorten(far));
        }
        Check.due("length 17", p.shorten(17), 17);
        Check.due("nothing is gone", p.fault(), Stitchpath.NONE);
        Check.due("length 16", p.shorten(16), 17);
        Check.badArgument("length 17 is too long then", () -> p.shorten(17));
        Check.due("length 1", p.shorten(1), 16);
        Check.due("length 0", p.shorten(0), 1);
        Check.badArgument("length 1 is too long then", () -> p.shorten(1));
        Check.badArgument("length -1 of an empty one", () -> p.shorten(-1));
        Check.due("length 0 of an empty one", p.shorten(0), 0);
    }

    private static void lengthsWithoutFile() {
        Check.says("Throws `IllegalArgumentException` if length is out of range");
        Stitchpath p = new Stitchpath();
        Check.badArgument("length 1 without a file", () -> p.shorten(1));
        Check.badArgument("length -1 without a file", () -> p.shorten(-1));
        Check.due("length 0 without a file", p.shorten(0), 0);
        Check.due("there is none still", p.fault(), 0);
    }

    // ---- promise 18

    private static void faultWith(Stitchpath p, int place, int value, int due) {
        int before = p.damage(place, value);
        Check.due("fault with " + value + " at " + place, p.fault(), due);
        p.damage(place, before);
        Check.due("fault when mended", p.fault(), Stitchpath.NONE);
    }

    private static void kindsAboveFour() {
        Check.says("a kind above 4");
        Stitchpath p = jumpTo(3, 0, SHORT);
        for (int kind = 5; kind < 8; kind++) {
            for (int difference = 0; difference < 32; difference++) {
                faultWith(p, 0, 32 * kind + difference, 0);
                faultWith(p, 2, 32 * kind + difference, 2);
            }
        }
        // A kind of 4 is END, behind which the byte 144 is no sum.
        p.damage(1, 16);
        faultWith(p, 0, 144, 2);
        Stitchpath q = jumpTo(0, 0, LONG);
        Check.due("END alone", q.shorten(4), 4);
        Stitchpath r = jumpTo(3, 0, LONG);
        for (int kind = 5; kind < 256; kind++) {
            faultWith(r, 0, kind, 0);
            faultWith(r, 3, kind, 3);
        }
        faultWith(r, 0, 4, 1);
        faultWith(r, 0, 0, 6);
        r.damage(1, 128);
        r.damage(0, 4);
        // The kind of the END behind it happens to be the sum of 4, 128, 128.
        Check.due("an early END, its sum, and one behind that", r.fault(), 4);
        r.damage(3, 5);
        Check.due("an early END without its sum", r.fault(), 3);
    }

    private static void oneByteAlone() {
        Check.says("The fault of a file is the place of the first byte that cannot stand there");
        int[][] dues = {{SHORT, 160, 0}, {SHORT, 29, 0}, {SHORT, 3, 0}, {SHORT, 28, 1}, {SHORT, 144, 1},
            {SHORT, 145, 0}, {LONG, 5, 0}, {LONG, 255, 0}, {LONG, 4, 1}, {LONG, 0, 1}};
        for (int[] due : dues) {
            Stitchpath p = jumpTo(3, 0, due[0]);
            p.shorten(1);
            p.damage(0, due[1]);
            Check.due("fault of " + due[1] + " alone in " + due[0], p.fault(), due[2]);
            Check.due("reads of " + due[1] + " alone in " + due[0], p.reads(), 0);
        }
    }

    private static void differencesAboveShort() {
        Check.says("a difference above the limit");
        int[] good = {4, 5, 15, 17, 27, 28};
        int[] bad = {0, 1, 2, 3, 29, 30, 31};
        for (int kind = 0; kind < 2; kind++) {
            Stitchpath p = jumpTo(1, 1, SHORT);
            for (int value : good) {
                faultWith(p, 0, 32 * kind + value, kind == 1 && value == 17 ? Stitchpath.NONE : 4);
                faultWith(p, 1, value, value == 17 ? Stitchpath.NONE : 4);
            }
            for (int value : bad) {
                faultWith(p, 0, 32 * kind + value, 0);
                faultWith(p, 1, value, 1);
            }
            for (int value = 32; value < 256; value++) {
                faultWith(p, 1, value, 1);
            }
        }
    }

    private static void differencesAboveLong() {
        Check.says("a difference above the limit");
        int[] good = {7, 8, 127, 128, 248, 249};
        int[] bad = {0, 1, 5, 6, 250, 251, 254, 255};
        for (int kind = 0; kind < 2; kind++) {
            Stitchpath p = jumpTo(1, 1, LONG);
            if (kind == 0) {
                p.damage(0, 0);
                p.damage(6, p.byteAt(6) - 1);
            }
            for (int place = 1; place < 3; place++) {
                for (int value : good) {
                    faultWith(p, place, value, 6);
                }
                for (int value : bad) {
                    faultWith(p, place, value, place);
                }
            }
        }
    }

    private static void differencesOfOthers() {
        Check.says("or one of a TRIM, STOP or END that is not 0");
        Stitchpath p = all(SHORT);
        int[] ofShort = {8, 10, 14};
        for (int place : ofShort) {
            for (int difference = -12; difference <= 12; difference++) {
                if (difference != 0) {
                    faultWith(p, place, p.byteAt(place) + difference, place);
                    faultWith(p, place + 1, 16 + difference, place + 1);
                }
            }
        }
        Stitchpath q = all(LONG);
        int[] ofLong = {12, 15, 21};
        for (int place : ofLong) {
            for (int value = 0; value < 256; value++) {
                if (value != 128) {
                    faultWith(q, place + 1, value, place + 1);
                    faultWith(q, place + 2, value, place + 2);
                }
            }
        }
        // A TRIM in place of a STOP is none that cannot stand there, but changes the sum.
        faultWith(q, 12, 2, 24);
        faultWith(p, 8, 80, 16);
    }

    private static void endsEarly() {
        Check.says("the length, if the file ends within a command, or without END, or without the byte behind it");
        for (int format = 0; format < 2; format++) {
            Stitchpath p = all(format);
            int length = p.write(format);
            Check.due("whole", p.fault(), Stitchpath.NONE);
            for (int shorter = length - 1; shorter >= 0; shorter--) {
                p.shorten(shorter);
                Check.due("format " + format + ", length " + shorter, p.fault(), shorter);
            }
        }
    }

    private static void endsWithinLong() {
        Check.says("The fault of a file is the place of the first byte that cannot stand there");
        Stitchpath p = all(LONG);
        p.damage(13, 129);
        p.shorten(14);
        Check.due("a difference of a STOP, ahead of the end within it", p.fault(), 13);
        p.shorten(13);
        Check.due("the end ahead of it", p.fault(), 13);
        p.write(LONG);
        p.damage(12, 5);
        p.shorten(13);
        Check.due("a kind, ahead of the end within it", p.fault(), 12);
        Stitchpath q = all(SHORT);
        q.damage(8, 113);
        q.shorten(9);
        Check.due("a difference in the first byte of a STOP", q.fault(), 8);
    }

    private static void firstOfSeveral() {
        Check.says("The fault of a file is the place of the first byte that cannot stand there");
        Stitchpath p = all(LONG);
        int[] places = {24, 22, 18, 14, 9, 8, 4, 0};
        for (int place : places) {
            p.damage(place, 255);
            Check.due("the first one of several", p.fault(), place);
        }
        Stitchpath q = all(SHORT);
        q.damage(3, 31);
        q.damage(2, 255);
        Check.due("both bytes of one command", q.fault(), 2);
    }

    private static void notThatSum() {
        Check.says("the byte behind END, if it is not that sum");
        for (int format = 0; format < 2; format++) {
            Stitchpath p = all(format);
            int place = p.write(format) - 1;
            int sum = p.byteAt(place);
            for (int value = 0; value < 256; value++) {
                p.damage(place, value);
                Check.due("a sum of " + value, p.fault(), value == sum ? Stitchpath.NONE : place);
            }
        }
    }

    private static void oneBehindTheSum() {
        Check.says("or the one behind that, if there is one.");
        Stitchpath p = all(SHORT);
        p.damage(2, 144);
        p.damage(3, 16);
        Check.due("the byte behind an early END is no sum", p.fault(), 4);
        p.damage(4, (49 + 17 + 144 + 16) % 256);
        Check.due("many behind the sum", p.fault(), 5);
        p.shorten(6);
        Check.due("one behind the sum", p.fault(), 5);
        p.shorten(5);
        Check.due("none behind the sum", p.fault(), Stitchpath.NONE);
        Stitchpath q = all(LONG);
        q.damage(0, 4);
        q.damage(1, 128);
        q.damage(2, 128);
        q.damage(3, 4);
        Check.due("many behind the sum, LONG", q.fault(), 4);
        q.shorten(5);
        Check.due("one behind the sum, LONG", q.fault(), 4);
        q.shorten(4);
        Check.due("none behind the sum, LONG", q.fault(), Stitchpath.NONE);
    }

    private static void noneOrNoFile() {
        Check.says("Returns the place; NONE without any, 0 without a file.");
        Stitchpath p = new Stitchpath();
        Check.due("without a file", p.fault(), 0);
        Check.badArgument("format 2", () -> p.write(2));
        Check.due("without one still", p.fault(), 0);
        p.write(LONG);
        Check.due("without a fault", p.fault(), -1);
        p.shorten(0);
        Check.due("empty", p.fault(), 0);
    }

    // ---- promise 19

    private static void readsInAll() {
        Check.says("Returns how many STITCHes the file has of which all bytes are ahead of its fault, or in all.");
        Stitchpath p = new Stitchpath();
        Check.due("without a file", p.reads(), 0);
        p.write(SHORT);
        Check.due("without a STITCH", p.reads(), 0);
        Check.due("all in SHORT", all(SHORT).reads(), 3);
        Check.due("all in LONG", all(LONG).reads(), 3);
        Stitchpath q = all(SHORT);
        q.shorten(0);
        Check.due("an empty one", q.reads(), 0);
    }

    private static void readsAheadOfFault() {
        Check.says("Returns how many STITCHes the file has of which all bytes are ahead of its fault, or in all.");
        for (int format = 0; format < 2; format++) {
            int each = format + 2;
            for (int command = 0; command < 8; command++) {
                for (int i = 0; i < each; i++) {
                    Stitchpath p = all(format);
                    p.damage(command * each + i, 255);
                    Check.due("fault", p.fault(), command * each + i);
                    Check.due("ahead of " + p.fault(), p.reads(), Math.max(0, Math.min(3, command - 1)));
                }
            }
            Stitchpath q = all(format);
            q.damage(8 * each, 255 - q.byteAt(8 * each));
            Check.due("another sum", q.reads(), 3);
        }
    }

    private static void readsWholeStitchesAlone() {
        Check.says("Returns how many STITCHes the file has of which all bytes are ahead of its fault, or in all.");
        for (int format = 0; format < 2; format++) {
            int each = format + 2;
            Stitchpath p = all(format);
            for (int length = 8 * each; length >= 0; length--) {
                p.shorten(length);
                Check.due("length " + length, p.reads(), Math.max(0, Math.min(3, length / each - 1)));
            }
        }
        Stitchpath q = all(LONG);
        q.damage(3, 1);
        Check.due("a JUMP that was a STITCH", q.reads(), 2);
        q.damage(3, 4);
        Check.due("a kind 4 with differences", q.reads(), 0);
        q.damage(3, 0);
        q.damage(6, 4);
        q.damage(7, 128);
        q.damage(8, 128);
        q.damage(9, sumAhead(q, 9) % 256);
        Check.due("one behind the sum of an early END", q.fault(), 10);
        Check.due("STITCHes behind END are not read", q.reads(), 1);
        q.damage(9, q.byteAt(9) ^ 1);
        Check.due("no sum behind an early END", q.fault(), 9);
        Check.due("nor read behind that", q.reads(), 1);
    }
}
