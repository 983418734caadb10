/** Promises 14 to 19. */
public final class FilesTest {
    public static void main(String[] args) {
        writesShort();
        writesLong();
        cutsJumps();
        replacesFile();
        refuses();
        shortens();
        faultsOfShort();
        faultsOfLong();
        faultsBehindEnd();
        readsAheadOfFault();
        Check.end();
    }

    /** JUMP 1, 2; STITCH 2, 0; STOP; TRIM; JUMP 27, 28; STITCHes 1, 0, -1, 1, 1, 0; END. */
    private static Stitchpath example() {
        Stitchpath p = new Stitchpath();
        Check.make(p, 2, 0, false, 1, 2, 3, 2, 3, 4, 1, 4);
        Check.make(p, 3, 0, true, 30, 30, 30, 31, 31, 31, 31, 30);
        return p;
    }

    private static void writesShort() {
        Stitchpath p = example();
        // 27, 28 is cut into three: 9, 9 and 9, 9 and 9, 10.
        Check.due("SHORT", p.write(Stitchpath.SHORT), 23);
        String ahead = "49 18 18 16 112 16 80 16 57 25 57 25 57 26 17 16 15 17 17 16 144 16";
        int sum = 0;
        for (String value : ahead.split(" ")) {
            sum += Integer.parseInt(value);
        }
        Check.dueText("bytes", Check.bytesOf(p, 23), ahead + " " + sum % 256);
        Check.due("fault", p.fault(), Stitchpath.NONE);
        Check.due("reads", p.reads(), 4);
    }

    private static void writesLong() {
        Stitchpath p = example();
        Check.due("LONG", p.write(Stitchpath.LONG), 28);
        String ahead = "1 129 130 0 130 128 3 128 128 2 128 128 1 155 156 "
                + "0 129 128 0 127 129 0 129 128 4 128 128";
        int sum = 0;
        for (String value : ahead.split(" ")) {
            sum += Integer.parseInt(value);
        }
        Check.dueText("bytes", Check.bytesOf(p, 28), ahead + " " + sum % 256);
        Check.due("fault", p.fault(), Stitchpath.NONE);
        Check.due("reads", p.reads(), 4);
    }

    private static void cutsJumps() {
        Stitchpath p = new Stitchpath();
        Check.make(p, 0, 0, true, 0, 0, 0, 5, 25, 5, 13, 0);
        p.sew(0, 8, 6, 0, 0, false);
        Check.dueText("commands", Check.commandsOf(p), "J13,0 J-13,2 J19,0 J-19,3 J25,0 E");
        p.write(Stitchpath.SHORT);
        Check.dueText("a JUMP of 13, one of -13", Check.bytesOf(p, 8), "54 16 55 16 41 17 42 17");
        Check.dueText("19 and -19", Check.bytesOf(p, 16).substring(24), "57 16 58 16 38 17 39 18");
        Check.due("length", p.write(Stitchpath.SHORT), 2 * (2 + 2 + 2 + 2 + 3 + 1) + 1);
        Check.due("length of LONG", p.write(Stitchpath.LONG), 3 * 6 + 1);
        Stitchpath q = new Stitchpath();
        Check.make(q, 0, 0, false, 12, 12, 12, 13, 13, 13, 13, 12);
        q.write(Stitchpath.SHORT);
        Check.dueText("a JUMP of 12", Check.bytesOf(q, 6).substring(0, 11), "80 16 60 28");
    }

    private static void replacesFile() {
        Stitchpath p = example();
        p.write(Stitchpath.LONG);
        p.field(0, 0, false);
        p.scale(0, 50);
        Check.due("a file stays as it is", p.fault(), Stitchpath.NONE);
        Check.due("its bytes too", p.byteAt(1), 129);
        p.write(Stitchpath.SHORT);
        Check.noSuch("a shorter one is shorter", () -> p.byteAt(23));
        Check.due("and has no fault", p.fault(), Stitchpath.NONE);
    }

    private static void refuses() {
        Stitchpath p = example();
        Check.badArgument("write(-1)", () -> p.write(-1));
        Check.badArgument("write(2)", () -> p.write(2));
        Check.due("fault without a file", p.fault(), 0);
        p.write(Stitchpath.LONG);
        Check.badArgument("write(2) behind one", () -> p.write(2));
        Check.due("length is kept", p.shorten(28), 28);
        Check.noSuch("byteAt(-1)", () -> p.byteAt(-1));
        Check.noSuch("byteAt(28)", () -> p.byteAt(28));
        Check.noSuch("damage(-1, 256)", () -> p.damage(-1, 256));
        Check.noSuch("damage(28, 0)", () -> p.damage(28, 0));
        Check.badArgument("damage(27, -1)", () -> p.damage(27, -1));
        Check.badArgument("damage(27, 256)", () -> p.damage(27, 256));
        Check.due("no damage was done", p.fault(), Stitchpath.NONE);
        Check.due("damage(0, 255)", p.damage(0, 255), 1);
        Check.due("byteAt(0)", p.byteAt(0), 255);
        Check.due("damage(0, 0)", p.damage(0, 0), 255);
        Check.due("damage(0, 1)", p.damage(0, 1), 0);
        Check.due("no fault again", p.fault(), Stitchpath.NONE);
    }

    private static void shortens() {
        Stitchpath p = example();
        Check.due("shorten(0) without a file", p.shorten(0), 0);
        p.write(Stitchpath.SHORT);
        Check.badArgument("shorten(-1)", () -> p.shorten(-1));
        Check.badArgument("shorten(24)", () -> p.shorten(24));
        Check.due("shorten(23)", p.shorten(23), 23);
        Check.due("whole", p.fault(), Stitchpath.NONE);
        Check.due("shorten(22)", p.shorten(22), 23);
        Check.due("without the sum", p.fault(), 22);
        Check.due("reads", p.reads(), 4);
        Check.badArgument("shorten(23)", () -> p.shorten(23));
        Check.noSuch("byteAt(22)", () -> p.byteAt(22));
        p.shorten(21);
        Check.due("within END", p.fault(), 21);
        p.shorten(20);
        Check.due("without END", p.fault(), 20);
        Check.due("reads all STITCHes", p.reads(), 4);
        p.shorten(19);
        Check.due("within the last STITCH", p.fault(), 19);
        Check.due("reads one less", p.reads(), 3);
        Check.due("shorten(0)", p.shorten(0), 19);
        Check.due("an empty file", p.fault(), 0);
        Check.due("reads nothing", p.reads(), 0);
    }

    private static void faultWith(int format, int place, int value, int due) {
        Stitchpath p = example();
        p.write(format);
        p.damage(place, value);
        Check.due("fault of " + format + " with " + value + " at " + place, p.fault(), due);
    }

    private static void faultsOfShort() {
        int sum = 22;
        faultWith(0, 0, 32 * 5 + 16, 0);
        faultWith(0, 0, 255, 0);
        faultWith(0, 0, 32 + 16 + 12, sum);
        faultWith(0, 0, 32 + 16 - 12, sum);
        faultWith(0, 0, 32 + 16 + 13, 0);
        faultWith(0, 0, 32 + 16 - 13, 0);
        faultWith(0, 1, 28, sum);
        faultWith(0, 1, 29, 1);
        faultWith(0, 1, 4, sum);
        faultWith(0, 1, 3, 1);
        faultWith(0, 1, 255, 1);
        faultWith(0, 4, 113, 4);
        faultWith(0, 5, 15, 5);
        faultWith(0, 6, 79, 6);
        faultWith(0, 7, 17, 7);
        faultWith(0, 20, 145, 20);
        faultWith(0, 21, 17, 21);
        faultWith(0, 22, 0, sum);
        // An END that comes too early, and the byte behind it, 18, is no sum.
        faultWith(0, 0, 144, 1);
    }

    private static void faultsOfLong() {
        int sum = 27;
        faultWith(1, 0, 5, 0);
        faultWith(1, 0, 255, 0);
        faultWith(1, 0, 0, sum);
        faultWith(1, 1, 249, sum);
        faultWith(1, 1, 250, 1);
        faultWith(1, 1, 7, sum);
        faultWith(1, 1, 6, 1);
        faultWith(1, 2, 249, sum);
        faultWith(1, 2, 250, 2);
        faultWith(1, 2, 7, sum);
        faultWith(1, 2, 6, 2);
        faultWith(1, 6, 4, 9);
        faultWith(1, 7, 129, 7);
        faultWith(1, 8, 127, 8);
        faultWith(1, 10, 0, 10);
        faultWith(1, 11, 129, 11);
        faultWith(1, 25, 127, 25);
        faultWith(1, 26, 129, 26);
        faultWith(1, 27, 0, sum);
    }

    private static void faultsBehindEnd() {
        Stitchpath p = new Stitchpath();
        Check.due("END alone", p.write(Stitchpath.LONG), 4);
        Check.dueText("bytes of END", Check.bytesOf(p, 4), "4 128 128 4");
        Check.due("no fault", p.fault(), Stitchpath.NONE);
        p.damage(3, 5);
        Check.due("another sum", p.fault(), 3);
        Stitchpath q = example();
        q.write(Stitchpath.SHORT);
        q.damage(2, 144);
        q.damage(3, 16);
        Check.due("the byte behind an early END", q.fault(), 4);
        q.damage(4, (49 + 18 + 144 + 16) % 256);
        Check.due("one more behind the sum", q.fault(), 5);
        Check.due("reads nothing ahead of END", q.reads(), 0);
        q.shorten(6);
        Check.due("a single one behind the sum", q.fault(), 5);
        q.shorten(5);
        Check.due("nothing behind the sum", q.fault(), Stitchpath.NONE);
        q.shorten(4);
        Check.due("no sum", q.fault(), 4);
    }

    private static void readsAheadOfFault() {
        Stitchpath p = example();
        p.write(Stitchpath.LONG);
        Check.due("in all", p.reads(), 4);
        p.damage(20, 0);
        Check.due("the fault is in the third STITCH", p.fault(), 20);
        Check.due("reads two", p.reads(), 2);
        p.damage(15, 1);
        Check.due("a STITCH is now a JUMP", p.reads(), 1);
        p.damage(5, 0);
        Check.due("the fault is the last byte of the first STITCH", p.fault(), 5);
        Check.due("reads none", p.reads(), 0);
    }
}
