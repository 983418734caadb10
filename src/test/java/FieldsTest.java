/** Promises 1 to 6, and the needle points that fields have. */
public final class FieldsTest {
    public static void main(String[] args) {
        newObject();
        makesFields();
        takesCorners();
        columnTakesFour();
        sewTellsEachNumber();
        sewRefuses();
        scales();
        scaleRefuses();
        bounds();
        slopesRoundDown();
        spansGoThereAndBack();
        pullGoesBeyond();
        pullMakesSpansOverlap();
        underlayGoesAlongEdges();
        underlayOfOnePlace();
        columns();
        Check.end();
    }

    private static void newObject() {
        Stitchpath p = new Stitchpath();
        Check.dueText("commands of a new object", Check.commandsOf(p), "E");
        Check.dueFloat("time of a new object", p.time(), 0.0f);
        Check.due("thread of a new object", p.thread(0), 0);
        Check.due("ENDs of a new object", p.count(Stitchpath.END), 1);
        Check.due("STITCHes of a new object", p.count(Stitchpath.STITCH), 0);
        Check.due("fault without a file", p.fault(), 0);
        Check.due("reads without a file", p.reads(), 0);
        Check.noSuch("byteAt without a file", () -> p.byteAt(0));
        Check.noSuch("damage without a file", () -> p.damage(0, 0));
        Check.badArgument("shorten without a file", () -> p.shorten(1));
        Check.badState("run without a machine", () -> p.run(1));
        Check.noSuch("sewn without a machine", () -> p.sewn(0));
        Check.noSuch("corner without a field", () -> p.corner(0, 0, 0));
        Check.noSuch("covered without a field", () -> p.covered(0));
        Check.noSuch("touched without a field", () -> p.touched(0));
    }

    private static void makesFields() {
        Stitchpath p = new Stitchpath();
        Check.badArgument("field(-1, 0)", () -> p.field(-1, 0, false));
        Check.badArgument("field(6, 0)", () -> p.field(6, 0, false));
        Check.badArgument("field(0, -1)", () -> p.field(0, -1, false));
        Check.badArgument("field(0, 4)", () -> p.field(0, 4, true));
        Check.noSuch("corner behind refused fields", () -> p.corner(0, 1, 1));
        for (int i = 0; i < 8; i++) {
            Check.due("field " + i, p.field(i % 6, i % 4, i % 2 == 1), i);
        }
        Check.badState("the ninth field", () -> p.field(5, 3, false));
        Check.badArgument("the ninth field, bad colour", () -> p.field(6, 3, false));
        Check.badArgument("the ninth field, bad layer", () -> p.field(5, 4, false));
        Check.noSuch("corner of the ninth field", () -> p.corner(8, 1, 1));
        Check.due("corner of the eighth field", p.corner(7, 1, 1), 1);
        Check.dueText("fields without corners", Check.commandsOf(p), "E");
    }

    private static void takesCorners() {
        Stitchpath p = new Stitchpath();
        p.field(0, 0, false);
        Check.noSuch("corner(-1, ..)", () -> p.corner(-1, 32, 0));
        Check.noSuch("corner(1, ..)", () -> p.corner(1, 0, 0));
        Check.badArgument("x -1", () -> p.corner(0, -1, 0));
        Check.badArgument("x 32", () -> p.corner(0, 32, 0));
        Check.badArgument("y -1", () -> p.corner(0, 0, -1));
        Check.badArgument("y 32", () -> p.corner(0, 0, 32));
        int[] xs = {0, 31, 31, 0, 0, 0, 0, 0};
        int[] ys = {0, 0, 31, 31, 30, 29, 28, 27};
        for (int i = 0; i < 8; i++) {
            if (i == 2) {
                Check.due("two corners have commands", p.commands(), 1);
            }
            Check.due("corner " + i, p.corner(0, xs[i], ys[i]), i + 1);
        }
        Check.badState("the ninth corner", () -> p.corner(0, 1, 1));
        Check.badArgument("the ninth corner, bad x", () -> p.corner(0, 32, 1));
        Check.noSuch("the ninth corner, bad field", () -> p.corner(1, 32, 1));
    }

    private static void columnTakesFour() {
        Stitchpath p = new Stitchpath();
        Check.make(p, 0, 0, true, 0, 0, 0, 4, 6, 4);
        Check.dueText("a column of three corners", Check.commandsOf(p), "E");
        Check.due("the fourth corner", p.corner(0, 4, 0), 4);
        String before = Check.commandsOf(p);
        Check.badState("the fifth corner", () -> p.corner(0, 1, 1));
        Check.badArgument("the fifth corner, bad y", () -> p.corner(0, 1, 32));
        Check.dueText("a refused corner", Check.commandsOf(p), before);
    }

    private static void sewTellsEachNumber() {
        Stitchpath p = new Stitchpath();
        Check.make(p, 0, 0, false, 0, 0, 8, 0, 8, 4, 0, 4);
        Check.dueText("as made", Check.commandsOf(p), "S6,0 S2,0 S0,2 S-2,0 S-6,0 E");
        p.sew(0, 3, 6, 0, 0, false);
        Check.dueText("density 3", Check.commandsOf(p), "S6,0 S2,0 S0,3 S-2,0 S-6,0 E");
        p.sew(0, 4, 4, 0, 0, false);
        Check.dueText("density 4 leaves one row, length 4", Check.commandsOf(p), "S4,0 S4,0 E");
        p.sew(0, 2, 6, 2, 0, false);
        Check.dueText("shift 2", Check.commandsOf(p), "S6,0 S2,0 S0,2 S-6,0 S-2,0 E");
        p.sew(0, 2, 6, 0, 1, false);
        Check.dueText("pull 1", Check.commandsOf(p),
                "J-1,0 S1,0 S6,0 S3,0 S0,2 S-3,0 S-6,0 S-1,0 E");
        p.sew(0, 8, 12, 11, 0, true);
        Check.dueText("underlay", Check.commandsOf(p), "S8,0 S0,4 S-8,0 S0,-4 S8,0 E");
        p.sew(0, 1, 1, 0, 0, false);
        Check.due("density 1, length 1", p.commands(), 4 * 8 + 3 + 1);
    }

    private static void sewRefuses() {
        Stitchpath p = new Stitchpath();
        Check.make(p, 0, 0, false, 0, 0, 8, 0, 8, 4, 0, 4);
        String before = Check.commandsOf(p);
        Check.noSuch("sew(1, ..)", () -> p.sew(1, 0, 0, 0, 0, false));
        Check.noSuch("sew(-1, ..)", () -> p.sew(-1, 2, 6, 0, 0, false));
        int[][] bad = {{0, 6, 0, 0}, {9, 6, 0, 0}, {2, 0, 0, 0}, {2, 13, 0, 0},
                {2, 6, -1, 0}, {2, 6, 12, 0}, {2, 6, 0, -1}, {2, 6, 0, 4}};
        for (int[] b : bad) {
            Check.badArgument("sew with " + java.util.Arrays.toString(b),
                    () -> p.sew(0, b[0], b[1], b[2], b[3], true));
            Check.dueText("refused sew", Check.commandsOf(p), before);
        }
        p.sew(0, 8, 12, 11, 3, true);
        p.sew(0, 1, 1, 0, 0, false);
    }

    private static void scales() {
        Stitchpath p = new Stitchpath();
        Check.make(p, 0, 0, false, 1, 1, 7, 1, 7, 5, 1, 5);
        p.scale(0, 150);
        // 1 becomes 1, 7 becomes 10, 5 becomes 7; the rows are 1, 3 and 5.
        Check.dueText("scaled by 150", Check.commandsOf(p),
                "J1,1 S5,0 S4,0 S0,2 S-4,0 S-5,0 S0,2 S5,0 S4,0 E");
        p.scale(0, 50);
        Check.dueText("scaled by 50", Check.commandsOf(p), "S5,0 S0,2 S-5,0 E");
        p.scale(0, 1);
        Check.dueText("scaled by 1", Check.commandsOf(p), "E");
        p.scale(0, 400);
        Check.due("scaled by 400", p.corner(0, 9, 9), 5);
    }

    private static void scaleRefuses() {
        Stitchpath p = new Stitchpath();
        Check.make(p, 0, 0, false, 0, 0, 8, 0, 8, 31, 0, 31);
        String before = Check.commandsOf(p);
        Check.noSuch("scale(1, 0)", () -> p.scale(1, 0));
        Check.noSuch("scale(-1, 100)", () -> p.scale(-1, 100));
        Check.badArgument("hundredths 0", () -> p.scale(0, 0));
        Check.badArgument("hundredths 401", () -> p.scale(0, 401));
        Check.badState("31 becomes 32", () -> p.scale(0, 104));
        Check.badState("31 becomes 124", () -> p.scale(0, 400));
        Check.dueText("refused scale", Check.commandsOf(p), before);
        p.scale(0, 103);
        Check.dueText("31 remains 31", Check.commandsOf(p), before);
        Stitchpath q = new Stitchpath();
        Check.make(q, 0, 0, false, 0, 0, 31, 0, 31, 2, 0, 2);
        Check.badState("an x of 31 becomes 32", () -> q.scale(0, 104));
        q.field(0, 0, false);
        q.scale(1, 400);
        Check.due("a field without corners is scaled", q.corner(1, 0, 0), 1);
    }

    private static void bounds() {
        Stitchpath p = new Stitchpath();
        Check.make(p, 0, 0, false, 8, 0, 10, 0, 10, 1, 8, 1);
        Check.dueText("as far as the bound", Check.commandsOf(p), "J8,0 S2,0 E");
        Check.due("bound(7)", p.bound(7), 8);
        Check.dueText("beyond the bound", Check.commandsOf(p), "T J8,0 S2,0 E");
        Check.badArgument("bound(-1)", () -> p.bound(-1));
        Check.badArgument("bound(101)", () -> p.bound(101));
        Check.due("bound(0)", p.bound(0), 7);
        Check.due("bound(100)", p.bound(100), 0);
        Check.due("bound(8)", p.bound(8), 100);
        Stitchpath q = new Stitchpath();
        Check.make(q, 0, 0, false, 0, 0, 2, 0, 2, 1, 0, 1);
        q.bound(0);
        Check.dueText("no TRIM where the needle is", Check.commandsOf(q), "S2,0 E");
    }

    private static void slopesRoundDown() {
        Stitchpath p = new Stitchpath();
        Check.make(p, 0, 0, false, 10, 0, 0, 3, 4, 7);
        Check.dueText("a triangle", Check.commandsOf(p),
                "T J10,0 S-2,2 S-2,0 S-3,0 S-2,2 S5,0 S-2,2 S-1,0 E");
        Check.dueText("its owners", Check.ownersOf(p), "-00000000-");
    }

    private static void spansGoThereAndBack() {
        Stitchpath p = new Stitchpath();
        Check.make(p, 0, 0, false, 0, 0, 4, 0, 4, 4, 20, 4, 20, 0, 24, 0, 24, 6, 0, 6);
        p.sew(0, 2, 4, 1, 0, false);
        Check.dueText("two spans", Check.commandsOf(p),
                "S4,0 J16,0 S4,0 S0,2 S-3,0 S-1,0 J-16,0 S-3,0 S-1,0 "
                + "S0,2 S2,0 S4,0 S4,0 S4,0 S4,0 S4,0 S2,0 E");
    }

    private static void pullGoesBeyond() {
        Stitchpath p = new Stitchpath();
        Check.make(p, 0, 0, false, 0, 0, 2, 0, 2, 2, 0, 2);
        p.sew(0, 1, 12, 0, 3, false);
        Check.dueText("a pull of 3", Check.commandsOf(p), "J-3,0 S3,0 S5,0 S0,1 S-5,0 S-3,0 E");
        Check.due("touched within 0 to 31", p.touched(0), 12);
        Stitchpath q = new Stitchpath();
        Check.make(q, 0, 0, false, 31, 0, 31, 0, 31, 1);
        q.sew(0, 1, 2, 1, 3, false);
        Check.dueText("beyond 31", Check.commandsOf(q), "T J28,0 S2,0 S2,0 S2,0 E");
        Check.due("touched up to 31", q.touched(0), 4);
    }

    private static void pullMakesSpansOverlap() {
        Stitchpath p = new Stitchpath();
        Check.make(p, 0, 0, false, 0, 0, 2, 0, 2, 1, 4, 1, 4, 0, 6, 0, 6, 2, 0, 2);
        p.sew(0, 8, 12, 0, 2, false);
        // The spans 0 to 2 and 4 to 6 become -2 to 4 and 2 to 8.
        Check.dueText("spans over each other", Check.commandsOf(p), "J-2,0 S2,0 S4,0 S-2,0 S6,0 E");
    }

    private static void underlayGoesAlongEdges() {
        Stitchpath p = new Stitchpath();
        Check.make(p, 0, 0, false, 0, 0, 5, 0, 0, 3);
        p.sew(0, 8, 2, 0, 0, true);
        Check.dueText("an underlay", Check.commandsOf(p),
                "S1,0 S2,0 S2,0 S-2,1 S-2,1 S-1,1 S0,-2 S0,-1 S2,0 S2,0 S1,0 E");
        p.corner(0, 0, 3);
        Check.dueText("an edge without length", Check.commandsOf(p),
                "S1,0 S2,0 S2,0 S-2,1 S-2,1 S-1,1 S0,-2 S0,-1 S2,0 S2,0 S1,0 E");
    }

    private static void underlayOfOnePlace() {
        Stitchpath p = new Stitchpath();
        Check.make(p, 0, 0, false, 3, 3, 3, 3, 3, 3);
        Check.dueText("no row at all", Check.commandsOf(p), "E");
        p.sew(0, 2, 6, 0, 0, true);
        Check.dueText("the first corner alone", Check.commandsOf(p), "J3,3 E");
        Stitchpath q = new Stitchpath();
        Check.make(q, 0, 0, false, 1, 1, 5, 1);
        q.sew(0, 2, 6, 0, 0, true);
        Check.dueText("an underlay of two corners", Check.commandsOf(q), "E");
        q.corner(0, 9, 1);
        Check.dueText("an underlay along one row", Check.commandsOf(q), "J1,1 S4,0 S4,0 S-4,0 S-4,0 E");
    }

    private static void columns() {
        Stitchpath p = new Stitchpath();
        Check.make(p, 0, 0, true, 0, 0, 0, 4, 6, 4, 4, 0);
        p.sew(0, 3, 6, 0, 0, false);
        Check.dueText("a column", Check.commandsOf(p), "S4,0 S-4,2 S5,0 S-5,2 S6,0 E");
        p.sew(0, 3, 1, 5, 3, true);
        Check.dueText("a column has neither pull nor underlay", Check.commandsOf(p),
                "S4,0 S-4,2 S5,0 S-5,2 S6,0 E");
        p.sew(0, 2, 6, 0, 0, false);
        Check.dueText("a column with density 2", Check.commandsOf(p),
                "S4,0 S-4,1 S4,0 S-4,1 S5,0 S-5,2 S6,0 E");
        Stitchpath q = new Stitchpath();
        Check.make(q, 0, 0, true, 5, 5, 5, 5, 0, 8, 7, 8);
        q.sew(0, 8, 6, 0, 0, false);
        Check.dueText("the second rail is longer, but short of the density", Check.commandsOf(q),
                "J5,5 S2,3 S-2,-3 S-5,3 E");
        q.sew(0, 4, 6, 0, 0, false);
        Check.dueText("a rail back rounds down", Check.commandsOf(q),
                "J5,5 S2,3 S-2,-3 S-2,3 S2,-3 S-5,3 E");
        Stitchpath r = new Stitchpath();
        Check.make(r, 0, 0, true, 0, 0, 0, 5, 20, 5, 20, 0);
        r.sew(0, 8, 6, 0, 0, false);
        Check.dueText("a wide column jumps", Check.commandsOf(r), "J20,0 J-20,5 J20,0 E");
    }
}
