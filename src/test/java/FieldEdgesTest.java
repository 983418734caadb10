/** Promises 1 to 6 and the term FIELDS: a test for each sentence that names an edge. */
public final class FieldEdgesTest {
    private static final int[] FAR = {Integer.MIN_VALUE, -256, 256, 1 << 16, Integer.MAX_VALUE};

    public static void main(String[] args) {
        newObject();
        colours();
        layers();
        atMostEightFields();
        madeAs();
        noSuchFields();
        cornersX();
        cornersY();
        cornersReturned();
        atMostEightCorners();
        columnsHaveFour();
        densities();
        lengths();
        shifts();
        pulls();
        columnsHaveNoUnderlay();
        hundredths();
        scaledDown();
        scaledTooFar();
        scaledNotAtAll();
        keptWhenScaled();
        bounds();
        boundBefore();
        fewerThanThree();
        fewerThanFour();
        lastBesideFirst();
        cornersInOrder();
        crossedFromLesserToGreater();
        crossingsRoundDown();
        spansTwoByTwo();
        fromTheLeastY();
        belowTheGreatestY();
        leastAndGreatestAnywhere();
        rowsFromZero();
        widerBeyondPlaces();
        dividedByLength();
        dividedBelowZero();
        oneIfBothAreOne();
        backInOddRows();
        underlayAheadOfRows();
        underlayRoundsUp();
        underlayRoundsDown();
        edgesWithoutLength();
        railsFromTo();
        railsByGreatestDifference();
        columnPlacesRoundDown();
        columnsWithoutRows();
        Check.end();
    }

    // ---- promise 1

    private static void newObject() {
        Check.says("No fields, no file, no machine.");
        Stitchpath p = new Stitchpath();
        Check.noSuch("corner", () -> p.corner(0, 0, 0));
        Check.noSuch("sew", () -> p.sew(0, 2, 6, 0, 0, false));
        Check.noSuch("scale", () -> p.scale(0, 100));
        Check.noSuch("covered", () -> p.covered(0));
        Check.noSuch("touched", () -> p.touched(0));
        Check.due("commands", p.commands(), 1);
        Check.noSuch("byteAt", () -> p.byteAt(0));
        Check.noSuch("damage", () -> p.damage(0, 0));
        Check.badArgument("shorten", () -> p.shorten(1));
        Check.due("fault", p.fault(), 0);
        Check.due("reads", p.reads(), 0);
        Check.badState("run", () -> p.run(1));
        Check.noSuch("breaks", () -> p.breaks(0));
        Check.noSuch("mend", () -> p.mend(0));
        Check.noSuch("sewn", () -> p.sewn(0));
        Check.due("the first field", p.field(0, 0, false), 0);
    }

    // ---- promise 2

    private static void colours() {
        Check.says("`colour`: 0 to 5");
        Stitchpath p = new Stitchpath();
        Check.badArgument("colour -1", () -> p.field(-1, 0, false));
        Check.badArgument("colour 6", () -> p.field(6, 0, true));
        for (int far : FAR) {
            Check.badArgument("colour " + far, () -> p.field(far, 0, false));
        }
        for (int colour = 0; colour <= 5; colour++) {
            Check.due("colour " + colour, p.field(colour, 0, true), colour);
            p.corner(colour, colour, 1);
            p.corner(colour, colour, 1);
            p.corner(colour, colour, 2);
            p.corner(colour, colour, 2);
        }
        for (int colour = 0; colour <= 5; colour++) {
            // There, back, and there again.
            Check.due("its thread", p.thread(colour), 30);
        }
    }

    private static void layers() {
        Check.says("`layer`: 0 to 3");
        Stitchpath p = new Stitchpath();
        Check.badArgument("layer -1", () -> p.field(0, -1, false));
        Check.badArgument("layer 4", () -> p.field(0, 4, true));
        for (int far : FAR) {
            Check.badArgument("layer " + far, () -> p.field(0, far, false));
        }
        for (int layer = 3; layer >= 0; layer--) {
            Check.due("layer " + layer, Check.point(p, 0, layer, 4 - layer, 0), 3 - layer);
        }
        Check.dueText("the layer 0 first", Check.ownersOf(p), "3210-");
    }

    private static void atMostEightFields() {
        Check.says("Throws `IllegalStateException` if there are 8");
        Stitchpath p = new Stitchpath();
        for (int i = 0; i < 8; i++) {
            Check.due("there are " + i, p.field(0, 0, i == 7), i);
        }
        Check.badState("there are 8", () -> p.field(0, 0, false));
        Check.badState("there are 8, a column", () -> p.field(5, 3, true));
        Check.noSuch("a field 8", () -> p.corner(8, 0, 0));
        Check.due("the field 7 is there", p.corner(7, 0, 0), 1);
    }

    private static void madeAs() {
        Check.says("Makes a field without corners: density 2, length 6, no shift, no pull, no underlay.");
        Stitchpath p = new Stitchpath();
        p.field(0, 0, false);
        Check.due("its first corner", p.corner(0, 1, 1), 1);
        p.corner(0, 14, 1);
        p.corner(0, 14, 6);
        p.corner(0, 1, 6);
        Check.dueText("as made", Check.pointsOf(p, 0),
                "1,1 6,1 12,1 14,1 14,3 12,3 6,3 1,3 1,5 6,5 12,5 14,5");
        Stitchpath q = new Stitchpath();
        Check.make(q, 0, 0, true, 1, 1, 1, 4, 3, 4, 3, 1);
        Check.dueText("a column as made", Check.pointsOf(q, 0), "1,1 3,1 1,2 3,2 1,4 3,4");
    }

    private static void noSuchFields() {
        Check.says("Throws `IndexOutOfBoundsException` if there is no such field");
        Stitchpath p = new Stitchpath();
        p.field(0, 0, false);
        p.field(0, 0, true);
        int[] none = {-1, 2, 7, 8, Integer.MIN_VALUE, Integer.MAX_VALUE};
        for (int field : none) {
            Check.noSuch("corner of " + field, () -> p.corner(field, 0, 0));
            Check.noSuch("sew of " + field, () -> p.sew(field, 2, 6, 0, 0, false));
            Check.noSuch("scale of " + field, () -> p.scale(field, 100));
            Check.noSuch("covered of " + field, () -> p.covered(field));
            Check.noSuch("touched of " + field, () -> p.touched(field));
        }
        Check.due("the last one is there", p.corner(1, 0, 0), 1);
    }

    // ---- promise 3

    private static void cornersX() {
        Check.says("`x`: 0 to 31");
        Stitchpath p = new Stitchpath();
        p.field(0, 0, false);
        Check.badArgument("x -1", () -> p.corner(0, -1, 1));
        Check.badArgument("x 32", () -> p.corner(0, 32, 1));
        for (int far : FAR) {
            Check.badArgument("x " + far, () -> p.corner(0, far, 1));
        }
        Check.due("x 0", p.corner(0, 0, 1), 1);
        Check.due("x 31", p.corner(0, 31, 1), 2);
        p.corner(0, 31, 2);
        Check.dueText("from 0 to 31", Check.pointsOf(p, 0), "0,1 6,1 12,1 18,1 24,1 30,1 31,1");
    }

    private static void cornersY() {
        Check.says("`y`: 0 to 31");
        Stitchpath p = new Stitchpath();
        p.field(0, 0, false);
        Check.badArgument("y -1", () -> p.corner(0, 1, -1));
        Check.badArgument("y 32", () -> p.corner(0, 1, 32));
        for (int far : FAR) {
            Check.badArgument("y " + far, () -> p.corner(0, 1, far));
        }
        Check.due("y 0", p.corner(0, 1, 0), 1);
        Check.due("y 31", p.corner(0, 1, 31), 2);
        p.corner(0, 2, 31);
        p.corner(0, 2, 0);
        p.sew(0, 6, 1, 0, 0, false);
        Check.dueText("from 0 to 30", Check.pointsOf(p, 0),
                "1,0 2,0 2,6 1,6 1,12 2,12 2,18 1,18 1,24 2,24 2,30 1,30");
    }

    private static void cornersReturned() {
        Check.says("Returns how many it has.");
        Stitchpath p = new Stitchpath();
        p.field(0, 0, false);
        p.field(0, 0, false);
        for (int i = 1; i <= 8; i++) {
            // Corners at one place are corners all the same.
            Check.due("corner " + i, p.corner(0, 5, 5), i);
        }
        Check.due("each field counts its own", p.corner(1, 5, 5), 1);
    }

    private static void atMostEightCorners() {
        Check.says("Throws `IllegalStateException` if it has 8, or is a column and has 4");
        Stitchpath p = new Stitchpath();
        Check.make(p, 0, 0, false, 1, 1, 2, 1, 3, 1, 4, 1, 5, 1, 6, 1, 6, 2);
        Check.due("it has 7", p.corner(0, 1, 2), 8);
        Check.badState("it has 8", () -> p.corner(0, 1, 1));
        Check.badState("it has 8 all the same", () -> p.corner(0, 31, 31));
        Check.dueText("its row", Check.pointsOf(p, 0), "1,1 6,1");
    }

    private static void columnsHaveFour() {
        Check.says("Throws `IllegalStateException` if it has 8, or is a column and has 4");
        Stitchpath p = new Stitchpath();
        Check.make(p, 0, 0, true, 1, 1, 1, 4, 3, 4);
        Check.due("it has 3", p.corner(0, 3, 1), 4);
        Check.badState("it has 4", () -> p.corner(0, 1, 1));
        Check.dueText("its points", Check.pointsOf(p, 0), "1,1 3,1 1,2 3,2 1,4 3,4");
        p.field(0, 0, false);
        for (int i = 1; i <= 5; i++) {
            Check.due("no column takes a fifth one", p.corner(1, 1, 1), i);
        }
    }

    // ---- promise 4

    private static void refusesSew(String what, int density, int length, int shift, int pull) {
        Stitchpath p = new Stitchpath();
        Check.box(p, 1, 1, 30, 10);
        p.sew(0, 3, 7, 4, 1, true);
        String before = Check.commandsOf(p);
        Check.badArgument(what, () -> p.sew(0, density, length, shift, pull, false));
        Check.dueText(what + " changes nothing", Check.commandsOf(p), before);
    }

    private static void densities() {
        Check.says("`density`: 1 to 8");
        refusesSew("density 0", 0, 6, 0, 0);
        refusesSew("density -1", -1, 6, 0, 0);
        refusesSew("density 9", 9, 6, 0, 0);
        for (int far : FAR) {
            refusesSew("density " + far, far, 6, 0, 0);
        }
        Stitchpath p = new Stitchpath();
        Check.box(p, 1, 1, 3, 18);
        p.sew(0, 8, 6, 0, 0, false);
        Check.dueText("density 8", Check.pointsOf(p, 0), "1,1 3,1 3,9 1,9 1,17 3,17");
        Stitchpath q = new Stitchpath();
        Check.box(q, 1, 1, 3, 4);
        q.sew(0, 1, 6, 0, 0, false);
        Check.dueText("density 1", Check.pointsOf(q, 0), "1,1 3,1 3,2 1,2 1,3 3,3");
    }

    private static void lengths() {
        Check.says("`length`: 1 to 12");
        refusesSew("length 0", 2, 0, 0, 0);
        refusesSew("length -1", 2, -1, 0, 0);
        refusesSew("length 13", 2, 13, 0, 0);
        for (int far : FAR) {
            refusesSew("length " + far, 2, far, 0, 0);
        }
        Stitchpath p = new Stitchpath();
        Check.box(p, 1, 1, 30, 2);
        p.sew(0, 2, 12, 0, 0, false);
        Check.dueText("length 12", Check.pointsOf(p, 0), "1,1 12,1 24,1 30,1");
        Stitchpath q = new Stitchpath();
        Check.box(q, 1, 1, 5, 2);
        q.sew(0, 2, 1, 0, 0, false);
        Check.dueText("length 1", Check.pointsOf(q, 0), "1,1 2,1 3,1 4,1 5,1");
    }

    private static void shifts() {
        Check.says("`shift`: 0 to 11");
        refusesSew("shift -1", 2, 6, -1, 0);
        refusesSew("shift 12", 2, 6, 12, 0);
        for (int far : FAR) {
            refusesSew("shift " + far, 2, 6, far, 0);
        }
        Stitchpath p = new Stitchpath();
        Check.box(p, 1, 1, 30, 3);
        p.sew(0, 1, 12, 11, 0, false);
        Check.dueText("shift 11", Check.pointsOf(p, 0), "1,1 12,1 24,1 30,1 30,2 23,2 11,2 1,2");
        p.sew(0, 1, 12, 0, 0, false);
        Check.dueText("shift 0", Check.pointsOf(p, 0), "1,1 12,1 24,1 30,1 30,2 24,2 12,2 1,2");
        // A shift beyond the length is allowed, and comes round.
        p.sew(0, 1, 5, 11, 0, false);
        Check.dueText("shift 11, length 5", Check.pointsOf(p, 0),
                "1,1 5,1 10,1 15,1 20,1 25,1 30,1 30,2 26,2 21,2 16,2 11,2 6,2 1,2");
    }

    private static void pulls() {
        Check.says("`pull`: 0 to 3");
        refusesSew("pull -1", 2, 6, 0, -1);
        refusesSew("pull 4", 2, 6, 0, 4);
        for (int far : FAR) {
            refusesSew("pull " + far, 2, 6, 0, far);
        }
        Stitchpath p = new Stitchpath();
        Check.box(p, 5, 1, 7, 2);
        p.sew(0, 2, 12, 0, 3, false);
        Check.dueText("pull 3", Check.pointsOf(p, 0), "2,1 10,1");
        p.sew(0, 2, 12, 0, 0, false);
        Check.dueText("pull 0", Check.pointsOf(p, 0), "5,1 7,1");
    }

    private static void columnsHaveNoUnderlay() {
        Check.says("`underlay`: whether it has one; a column has none all the same");
        Stitchpath p = new Stitchpath();
        Check.make(p, 0, 0, true, 1, 1, 1, 4, 3, 4, 3, 1);
        p.sew(0, 2, 1, 0, 0, true);
        Check.dueText("a column", Check.pointsOf(p, 0), "1,1 3,1 1,2 3,2 1,4 3,4");
        Check.box(p, 1, 5, 3, 6);
        p.sew(1, 2, 6, 0, 0, true);
        // From 1, 5 along the edges, and then the row from 1, 5 to 3, 5 again.
        Check.dueText("no column", Check.pointsOf(p, 1), "1,5 3,5 3,6 1,6 1,5 3,5");
        p.sew(1, 2, 6, 0, 0, false);
        Check.dueText("no underlay", Check.pointsOf(p, 1), "1,5 3,5");
    }

    // ---- promise 5

    private static void hundredths() {
        Check.says("`hundredths`: 1 to 400");
        Stitchpath p = new Stitchpath();
        Check.box(p, 1, 1, 7, 2);
        Check.badArgument("hundredths 0", () -> p.scale(0, 0));
        Check.badArgument("hundredths -1", () -> p.scale(0, -1));
        Check.badArgument("hundredths 401", () -> p.scale(0, 401));
        for (int far : FAR) {
            if (far != 256) {
                Check.badArgument("hundredths " + far, () -> p.scale(0, far));
            }
        }
        p.sew(0, 8, 12, 0, 0, false);
        Check.dueText("as it was", Check.pointsOf(p, 0), "1,1 7,1");
        p.scale(0, 400);
        Check.dueText("hundredths 400", Check.pointsOf(p, 0), "4,4 12,4 24,4 28,4");
        p.scale(0, 1);
        Check.dueText("hundredths 1", Check.pointsOf(p, 0), "");
        Check.due("its corners are there", p.corner(0, 0, 0), 5);
    }

    private static void scaledDown() {
        Check.says("Scales all corners of a field: each number times the hundredths, divided by 100, rounded down;"
                + " densities and lengths are kept.");
        Stitchpath p = new Stitchpath();
        Check.make(p, 0, 0, false, 3, 1, 9, 1, 9, 7, 3, 7);
        p.scale(0, 99);
        // 3, 9, 1 and 7 become 2, 8, 0 and 6; then 1, 4, 0 and 3.
        Check.dueText("by 99", Check.pointsOf(p, 0), "2,0 6,0 8,0 8,2 6,2 2,2 2,4 6,4 8,4");
        p.scale(0, 50);
        Check.dueText("by 50", Check.pointsOf(p, 0), "1,0 4,0 4,2 1,2");
        p.scale(0, 100);
        Check.dueText("by 100", Check.pointsOf(p, 0), "1,0 4,0 4,2 1,2");
        Stitchpath q = new Stitchpath();
        q.field(0, 0, false);
        q.field(0, 0, true);
        q.scale(0, 400);
        q.scale(1, 1);
        Check.due("fields without corners", q.corner(0, 1, 1) + q.corner(1, 1, 1), 2);
    }

    private static void scaledTooFar() {
        Check.says("Throws `IllegalStateException` if a corner would not be 0 to 31");
        Stitchpath p = new Stitchpath();
        Check.make(p, 0, 0, true, 31, 0, 31, 0, 31, 0, 31, 0);
        Check.badState("x 31 by 104 is 32", () -> p.scale(0, 104));
        p.scale(0, 103);
        Check.dueText("x 31 by 103 is 31", Check.pointsOf(p, 0), "31,0");
        Stitchpath q = new Stitchpath();
        Check.make(q, 0, 0, true, 0, 31, 0, 31, 0, 31, 0, 31);
        Check.badState("y 31 by 104 is 32", () -> q.scale(0, 104));
        q.scale(0, 103);
        Check.dueText("y 31 by 103 is 31", Check.pointsOf(q, 0), "0,31");
        Stitchpath r = new Stitchpath();
        Check.make(r, 0, 0, true, 7, 7, 7, 7, 7, 7, 8, 7);
        r.sew(0, 8, 6, 0, 0, false);
        Check.badState("8 by 400 is 32", () -> r.scale(0, 400));
        r.scale(0, 399);
        // 8 becomes 31, and 7 becomes 27.
        Check.dueText("8 by 399 is 31", Check.pointsOf(r, 0), "27,27 31,27 27,27");
    }

    private static void scaledNotAtAll() {
        Check.says("Throws `IllegalStateException` if a corner would not be 0 to 31");
        int[][] places = {{16, 1, 1, 1, 1, 2}, {1, 1, 16, 1, 1, 2}, {1, 1, 1, 2, 2, 16}};
        for (int[] each : places) {
            Stitchpath p = new Stitchpath();
            Check.make(p, 0, 0, false, each);
            p.sew(0, 2, 12, 0, 0, true);
            String before = Check.commandsOf(p);
            Check.badState("one corner of three", () -> p.scale(0, 200));
            Check.dueText("none is scaled", Check.commandsOf(p), before);
        }
    }

    private static void keptWhenScaled() {
        Check.says("densities and lengths are kept.");
        Stitchpath p = new Stitchpath();
        Check.box(p, 1, 1, 7, 3);
        p.sew(0, 3, 4, 1, 1, false);
        Check.dueText("ahead", Check.pointsOf(p, 0), "0,1 4,1 8,1");
        p.scale(0, 200);
        Check.dueText("behind", Check.pointsOf(p, 0), "1,2 4,2 8,2 12,2 15,2 15,5 13,5 9,5 5,5 1,5");
    }

    // ---- promise 6

    private static void bounds() {
        Check.says("`bound`: 0 to 100");
        Stitchpath p = new Stitchpath();
        Check.badArgument("bound -1", () -> p.bound(-1));
        Check.badArgument("bound 101", () -> p.bound(101));
        for (int far : FAR) {
            Check.badArgument("bound " + far, () -> p.bound(far));
        }
        Check.due("no bound of these was set", p.bound(0), 8);
        Check.point(p, 0, 0, 1, 0);
        Check.dueText("bound 0", Check.commandsOf(p), "T J1,0 E");
        p.bound(100);
        p.scale(0, 400);
        Check.point(p, 0, 0, 31, 31);
        Check.dueText("bound 100", Check.commandsOf(p), "J4,0 J27,31 E");
    }

    private static void boundBefore() {
        Check.says("Returns the one before.");
        Stitchpath p = new Stitchpath();
        Check.due("8 at first", p.bound(8), 8);
        Check.due("8 again", p.bound(100), 8);
        Check.due("100", p.bound(0), 100);
        Check.due("0", p.bound(1), 0);
        Check.badArgument("bound 101", () -> p.bound(101));
        Check.due("1", p.bound(1), 1);
    }

    // ---- the needle points

    private static void fewerThanThree() {
        Check.says("A field with fewer than 3 corners has no needle points, a column with fewer than 4 none either.");
        Stitchpath p = new Stitchpath();
        p.field(0, 0, false);
        p.sew(0, 1, 1, 0, 3, true);
        Check.dueText("no corner", Check.commandsOf(p), "E");
        p.corner(0, 1, 1);
        Check.dueText("one corner", Check.commandsOf(p), "E");
        p.corner(0, 2, 3);
        Check.dueText("two corners", Check.commandsOf(p), "E");
        Check.due("two corners touch", p.touched(0), 0);
        p.sew(0, 2, 6, 0, 0, false);
        p.corner(0, 5, 1);
        Check.dueText("three corners", Check.commandsOf(p), "J1,1 S4,0 E");
    }

    private static void fewerThanFour() {
        Check.says("A field with fewer than 3 corners has no needle points, a column with fewer than 4 none either.");
        Stitchpath p = new Stitchpath();
        p.field(0, 0, true);
        p.sew(0, 8, 1, 0, 3, true);
        for (int i = 0; i < 3; i++) {
            Check.dueText(i + " corners", Check.commandsOf(p), "E");
            p.corner(0, i + 1, 1);
        }
        Check.dueText("3 corners", Check.commandsOf(p), "E");
        Check.due("3 corners touch", p.touched(0), 0);
        p.corner(0, 4, 1);
        Check.dueText("4 corners", Check.pointsOf(p, 0), "1,1 4,1 2,1 3,1");
    }

    private static void lastBesideFirst() {
        Check.says("it has corners, at most 8, in their order, the last one beside the first one");
        Stitchpath p = new Stitchpath();
        Check.make(p, 0, 0, false, 2, 1, 10, 1, 2, 9);
        p.sew(0, 4, 12, 0, 0, false);
        Check.dueText("the last edge is crossed", Check.pointsOf(p, 0), "2,1 10,1 6,5 2,5");
        p.sew(0, 8, 4, 0, 0, true);
        Check.dueText("the last edge has an underlay", Check.pointsOf(p, 0),
                "2,1 6,1 10,1 6,5 2,9 2,5 2,1 4,1 8,1 10,1");
        Stitchpath q = new Stitchpath();
        Check.make(q, 0, 0, false, 1, 1, 5, 1, 9, 1, 9, 3, 9, 5, 5, 5, 1, 5, 1, 3);
        q.sew(0, 2, 12, 0, 0, false);
        Check.dueText("the edge from the eighth corner", Check.pointsOf(q, 0), "1,1 9,1 9,3 1,3");
    }

    private static void cornersInOrder() {
        Check.says("it has corners, at most 8, in their order, the last one beside the first one");
        Stitchpath p = new Stitchpath();
        Check.make(p, 0, 0, false, 1, 1, 9, 1, 1, 9, 9, 9);
        p.sew(0, 2, 12, 0, 0, false);
        Check.dueText("two edges over each other", Check.pointsOf(p, 0), "1,1 9,1 7,3 3,3 5,5 7,7 3,7");
        Stitchpath q = new Stitchpath();
        Check.make(q, 0, 0, false, 1, 1, 9, 9, 9, 1, 1, 9);
        q.sew(0, 2, 12, 0, 0, false);
        Check.dueText("the same corners in another order", Check.pointsOf(q, 0),
                "1,1 9,1 9,3 7,3 3,3 1,3 1,5 5,5 9,5 9,7 7,7 3,7 1,7");
    }

    private static void crossedFromLesserToGreater() {
        Check.says("A row y of a field is crossed by each edge of which the lesser y is at most y"
                + " and the greater one above it");
        Stitchpath p = new Stitchpath();
        Check.make(p, 0, 0, false, 2, 9, 2, 1, 8, 5, 14, 1, 14, 9);
        p.sew(0, 4, 12, 0, 1, false);
        // Two spans of one place each at the least y; at 8, 5 both edges have ended.
        Check.dueText("two edges end", Check.pointsOf(p, 0), "1,1 3,1 13,1 15,1 15,5 12,5 1,5");
        Stitchpath q = new Stitchpath();
        Check.make(q, 0, 0, false, 2, 1, 14, 1, 14, 9, 8, 5, 2, 9);
        q.sew(0, 4, 12, 0, 1, false);
        // At 8, 5 two edges begin, so that the row has two spans, each made wider.
        Check.dueText("two edges begin", Check.pointsOf(q, 0), "1,1 12,1 15,1 15,5 12,5 7,5 9,5 1,5");
        Stitchpath r = new Stitchpath();
        Check.make(r, 0, 0, false, 2, 1, 10, 1, 14, 5, 10, 9, 2, 9);
        r.sew(0, 4, 12, 0, 0, false);
        Check.dueText("one ends and one begins", Check.pointsOf(r, 0), "2,1 10,1 14,5 12,5 2,5");
        Stitchpath s = new Stitchpath();
        Check.make(s, 0, 0, false, 2, 1, 6, 1, 6, 5, 10, 5, 10, 9, 2, 9);
        s.sew(0, 4, 12, 0, 0, false);
        Check.dueText("an edge along the row", Check.pointsOf(s, 0), "2,1 6,1 10,5 2,5");
    }

    private static void crossingsRoundDown() {
        Check.says("divided by (y2 less y1), rounded down, the edge going from the corner 1 to the next one, 2.");
        String due = "9,1 10,1 10,2 6,2 4,3 10,3";
        Stitchpath p = new Stitchpath();
        // At 2 it is 6 and two thirds, at 3 4 and a third.
        Check.make(p, 0, 0, false, 9, 1, 2, 4, 10, 4, 10, 1);
        p.sew(0, 1, 12, 0, 0, false);
        Check.dueText("an edge to a lesser x", Check.pointsOf(p, 0), due);
        Stitchpath q = new Stitchpath();
        Check.make(q, 0, 0, false, 10, 1, 10, 4, 2, 4, 9, 1);
        q.sew(0, 1, 12, 0, 0, false);
        Check.dueText("the same edge back", Check.pointsOf(q, 0), due);
        Stitchpath r = new Stitchpath();
        Check.make(r, 0, 0, false, 2, 1, 9, 4, 1, 4, 1, 1);
        r.sew(0, 1, 12, 0, 0, false);
        Check.dueText("an edge to a greater x", Check.pointsOf(r, 0), "1,1 2,1 4,2 1,2 1,3 6,3");
    }

    private static void spansTwoByTwo() {
        Check.says("The crossings, by size, make spans, two by two.");
        Stitchpath p = new Stitchpath();
        Check.make(p, 0, 0, false, 1, 1, 3, 9, 9, 1, 11, 9, 17, 1, 19, 9, 25, 1, 27, 9);
        p.sew(0, 4, 12, 0, 0, false);
        // The edges cross the row 5 at 2, 6, 10, 14, 18, 22, 26, and the last one at 14 again.
        Check.dueText("four spans there, and four back", Check.pointsOf(p, 0),
                "1,1 9,1 17,1 25,1 26,5 24,5 22,5 18,5 14,5 12,5 10,5 6,5 2,5");
    }

    private static void leastAndGreatestAnywhere() {
        Check.says("The rows are those from the least y of the corners on, each the density further,"
                + " below the greatest y; they are numbered from 0.");
        int[] xs = {5, 9, 5, 1};
        int[] ys = {1, 5, 9, 5};
        for (int first = 0; first < 4; first++) {
            Stitchpath p = new Stitchpath();
            p.field(0, 0, false);
            for (int i = 0; i < 4; i++) {
                p.corner(0, xs[(first + i) % 4], ys[(first + i) % 4]);
            }
            p.sew(0, 3, 12, 0, 0, false);
            Check.dueText("the least y is that of the corner " + (4 - first) % 4, Check.pointsOf(p, 0),
                    "5,1 8,4 2,4 3,7 7,7");
        }
    }

    private static void fromTheLeastY() {
        Check.says("The rows are those from the least y of the corners on, each the density further,"
                + " below the greatest y; they are numbered from 0.");
        Stitchpath p = new Stitchpath();
        Check.make(p, 0, 0, false, 1, 9, 4, 9, 4, 3, 1, 3);
        p.sew(0, 4, 12, 0, 0, false);
        Check.dueText("the least y is that of the third corner", Check.pointsOf(p, 0), "1,3 4,3 4,7 1,7");
        p.scale(0, 34);
        // From 1 to 3 only the row 1 is left, from 0 to 1.
        Check.dueText("one row", Check.pointsOf(p, 0), "0,1 1,1");
    }

    private static void belowTheGreatestY() {
        Check.says("The rows are those from the least y of the corners on, each the density further,"
                + " below the greatest y; they are numbered from 0.");
        String[] due = {"1,5 3,5 3,6 1,6 1,7 3,7 3,8 1,8", "1,5 3,5 3,7 1,7", "1,5 3,5 3,8 1,8", "1,5 3,5", "1,5 3,5"};
        for (int density = 1; density <= 5; density++) {
            Stitchpath p = new Stitchpath();
            Check.box(p, 1, 5, 3, 9);
            p.sew(0, density, 6, 0, 0, false);
            Check.dueText("density " + density, Check.pointsOf(p, 0), due[density - 1]);
        }
        Stitchpath q = new Stitchpath();
        Check.box(q, 1, 5, 9, 5);
        q.sew(0, 1, 1, 0, 3, false);
        Check.dueText("the least y is the greatest", Check.commandsOf(q), "E");
        Stitchpath r = new Stitchpath();
        Check.box(r, 1, 30, 3, 31);
        Check.dueText("the last row there is", Check.pointsOf(r, 0), "1,30 3,30");
    }

    private static void rowsFromZero() {
        Check.says("they are numbered from 0.");
        Stitchpath p = new Stitchpath();
        Check.box(p, 1, 7, 11, 12);
        p.sew(0, 2, 5, 2, 0, false);
        // The row 7 is the row 0, without a shift, and goes to the right; 9 is 1, and 11 is 2.
        Check.dueText("rows 7, 9, 11", Check.pointsOf(p, 0),
                "1,7 5,7 10,7 11,7 11,9 7,9 2,9 1,9 1,11 4,11 9,11 11,11");
    }

    private static void widerBeyondPlaces() {
        Check.says("each first made wider by the pull on both sides, also beyond the places there are");
        Stitchpath p = new Stitchpath();
        Check.box(p, 0, 0, 31, 2);
        p.sew(0, 1, 12, 0, 3, false);
        Check.dueText("from -3 to 34", Check.pointsOf(p, 0),
                "-3,0 0,0 12,0 24,0 34,0 34,1 24,1 12,1 0,1 -3,1");
        Stitchpath q = new Stitchpath();
        Check.make(q, 0, 0, false, 4, 1, 4, 2, 5, 2, 5, 1);
        q.sew(0, 1, 12, 0, 1, false);
        Check.dueText("first wider, then needle points", Check.pointsOf(q, 0), "3,1 6,1");
    }

    private static void dividedByLength() {
        Check.says("are a, all between whose x less k times the shift can be divided by the length, and b; one if a is b.");
        Stitchpath p = new Stitchpath();
        Check.box(p, 6, 1, 18, 4);
        p.sew(0, 1, 6, 5, 0, false);
        // Both ends of the row 1 can be divided, too; then 11 and 17, then 10 and 16.
        Check.dueText("three rows", Check.pointsOf(p, 0),
                "6,1 12,1 18,1 18,2 17,2 11,2 6,2 6,3 10,3 16,3 18,3");
        Stitchpath q = new Stitchpath();
        Check.box(q, 13, 1, 23, 2);
        q.sew(0, 1, 12, 0, 0, false);
        Check.dueText("none between", Check.pointsOf(q, 0), "13,1 23,1");
    }

    private static void dividedBelowZero() {
        Check.says("are a, all between whose x less k times the shift can be divided by the length, and b; one if a is b.");
        Stitchpath p = new Stitchpath();
        Check.box(p, 0, 0, 4, 3);
        p.sew(0, 1, 4, 3, 3, false);
        // The row 1: 3, -1 and 7, which is b; the row 2: 6, 2 and -2.
        Check.dueText("x below 0", Check.pointsOf(p, 0),
                "-3,0 0,0 4,0 7,0 7,1 3,1 -1,1 -3,1 -3,2 -2,2 2,2 6,2 7,2");
        Stitchpath q = new Stitchpath();
        Check.box(q, 0, 0, 1, 31);
        q.sew(0, 1, 12, 11, 0, false);
        p.sew(0, 1, 12, 11, 0, false);
        Check.due("each row has both ends", q.commands(), 31 * 2);
    }

    private static void oneIfBothAreOne() {
        Check.says("are a, all between whose x less k times the shift can be divided by the length, and b; one if a is b.");
        Stitchpath p = new Stitchpath();
        Check.make(p, 0, 0, false, 4, 1, 8, 5, 4, 5);
        p.sew(0, 2, 6, 0, 0, false);
        Check.dueText("the first span has one place", Check.commandsOf(p), "J4,1 S2,2 S-2,0 E");
        Check.dueText("points", Check.pointsOf(p, 0), "4,1 6,3 4,3");
        p.sew(0, 8, 6, 0, 0, false);
        Check.dueText("and alone", Check.commandsOf(p), "J4,1 E");
    }

    private static void backInOddRows() {
        Check.says("Rows with even numbers go from the left to the right, spans and points, others back.");
        Stitchpath p = new Stitchpath();
        Check.make(p, 0, 0, false, 1, 1, 5, 1, 5, 6, 9, 6, 9, 1, 13, 1, 13, 8, 1, 8);
        p.sew(0, 2, 3, 0, 0, false);
        Check.dueText("two spans there, back, and there, and one back", Check.pointsOf(p, 0),
                "1,1 3,1 5,1 9,1 12,1 13,1 13,3 12,3 9,3 5,3 3,3 1,3 "
                + "1,5 3,5 5,5 9,5 12,5 13,5 13,7 12,7 9,7 6,7 3,7 1,7");
    }

    private static void underlayAheadOfRows() {
        Check.says("The underlay goes ahead of the rows: from the first corner along all edges to it again");
        Stitchpath p = new Stitchpath();
        Check.make(p, 0, 0, false, 9, 5, 3, 5, 3, 1, 9, 1);
        p.sew(0, 8, 12, 0, 2, true);
        // The pull is of the row alone.
        Check.dueText("along the edges, then the row", Check.pointsOf(p, 0), "9,5 3,5 3,1 9,1 9,5 1,1 11,1");
        p.scale(0, 10);
        Check.dueText("all corners at one place: the first one", Check.commandsOf(p), "E");
        Stitchpath q = new Stitchpath();
        Check.make(q, 0, 0, false, 5, 1, 9, 1, 7, 1);
        q.sew(0, 1, 2, 0, 0, true);
        Check.dueText("an underlay without rows", Check.pointsOf(q, 0), "5,1 7,1 9,1 7,1 5,1");
    }

    private static void underlayRoundsUp() {
        Check.says("an edge has as many steps as the greater one of both differences without sign,"
                + " divided by the length, rounded up");
        Stitchpath p = new Stitchpath();
        Check.make(p, 0, 0, false, 1, 1, 7, 1, 7, 3);
        p.sew(0, 8, 6, 0, 0, true);
        Check.dueText("6 by 6 is one step", Check.pointsOf(p, 0), "1,1 7,1 7,3 1,1 6,1 7,1");
        p.sew(0, 8, 5, 0, 0, true);
        Check.dueText("6 by 5 is two", Check.pointsOf(p, 0), "1,1 4,1 7,1 7,3 4,2 1,1 5,1 7,1");
        p.sew(0, 8, 7, 0, 0, true);
        Check.dueText("6 by 7 is one", Check.pointsOf(p, 0), "1,1 7,1 7,3 1,1 7,1");
        Stitchpath q = new Stitchpath();
        // Down by 7 and left by 3; then up by 7, and right by 3.
        Check.make(q, 0, 0, false, 4, 1, 1, 8, 4, 1);
        q.sew(0, 8, 3, 0, 0, true);
        Check.dueText("by the greater difference", Check.pointsOf(q, 0), "4,1 3,3 2,5 1,8 2,5 3,3 4,1");
    }

    private static void underlayRoundsDown() {
        Check.says("at the step j of n the corner and its difference times j, divided by n, rounded down");
        Stitchpath p = new Stitchpath();
        Check.make(p, 0, 0, false, 8, 8, 3, 5, 8, 8);
        p.sew(0, 8, 3, 0, 0, true);
        // Back by -5 and -3 of 2 steps is by -3 and -2; there again by 5 and 3 is by 2 and 1.
        Check.dueText("by less than 0", Check.pointsOf(p, 0).substring(0, 23), "8,8 5,6 3,5 5,6 8,8 3,5");
    }

    private static void edgesWithoutLength() {
        Check.says("edges without length have no step.");
        Stitchpath p = new Stitchpath();
        Check.make(p, 0, 0, false, 1, 1, 1, 1, 5, 1, 5, 1, 5, 3, 5, 3, 1, 3, 1, 1);
        p.sew(0, 8, 12, 0, 0, true);
        Check.dueText("corners by twos", Check.pointsOf(p, 0), "1,1 5,1 5,3 1,3 1,1 5,1");
        Stitchpath q = new Stitchpath();
        Check.make(q, 0, 0, false, 5, 5, 5, 5, 5, 5);
        q.sew(0, 1, 1, 0, 3, true);
        Check.dueText("the first corner alone", Check.commandsOf(q), "J5,5 E");
        Check.due("it touches", q.touched(0), 0);
    }

    // ---- columns

    private static void railsFromTo() {
        Check.says("its rails go from the corner 0 to 1, and from 3 to 2.");
        Stitchpath p = new Stitchpath();
        Check.make(p, 0, 0, true, 1, 1, 2, 5, 9, 6, 7, 2);
        p.sew(0, 8, 6, 0, 0, false);
        Check.dueText("the corners 0, 3, 1, 2", Check.pointsOf(p, 0), "1,1 7,2 2,5 9,6");
    }

    private static void railsByGreatestDifference() {
        Check.says("with n the greater one of all differences, of both rails, without sign,"
                + " divided by the density, rounded down, and 1");
        // Two commands for each place, a JUMP to the first one, and END, for all places differ.
        int[][] corners = {
            {1, 1, 9, 1, 1, 9, 1, 8}, {9, 1, 1, 1, 9, 9, 9, 8}, {1, 1, 2, 9, 9, 2, 9, 1}, {1, 9, 2, 1, 9, 2, 9, 1},
            {1, 1, 2, 1, 9, 9, 1, 9}, {1, 1, 2, 1, 1, 9, 9, 9}, {1, 1, 2, 1, 9, 9, 9, 1}, {1, 1, 2, 1, 9, 1, 9, 9}};
        for (int[] each : corners) {
            Stitchpath p = new Stitchpath();
            Check.make(p, 0, 0, true, each);
            p.bound(100);
            p.sew(0, 8, 6, 0, 0, false);
            Check.due("8 by 8 is 1, and 1", p.commands(), 2 * 3 + 1);
            p.sew(0, 5, 6, 0, 0, false);
            Check.due("8 by 5 is 1, and 1", p.commands(), 2 * 3 + 1);
            p.sew(0, 4, 6, 0, 0, false);
            Check.due("8 by 4 is 2, and 1", p.commands(), 2 * 4 + 1);
            p.sew(0, 1, 6, 0, 0, false);
            Check.due("8 by 1 is 8, and 1", p.commands(), 2 * 10 + 1);
        }
        Stitchpath q = new Stitchpath();
        Check.make(q, 0, 0, true, 1, 1, 1, 8, 3, 8, 3, 1);
        q.sew(0, 8, 6, 0, 0, false);
        Check.dueText("7 by 8 is 0, and 1", Check.pointsOf(q, 0), "1,1 3,1 1,8 3,8");
        Stitchpath r = new Stitchpath();
        Check.make(r, 0, 0, true, 3, 3, 3, 3, 6, 3, 6, 3);
        Check.dueText("0 by 2 is 0, and 1", Check.pointsOf(r, 0), "3,3 6,3 3,3 6,3");
    }

    private static void columnPlacesRoundDown() {
        Check.says("it goes, for j from 0 to n, to the place j of n of the first rail and then of the second one,"
                + " places as with underlays.");
        Stitchpath p = new Stitchpath();
        Check.make(p, 0, 0, true, 9, 9, 2, 4, 12, 2, 12, 9);
        p.sew(0, 3, 6, 0, 0, false);
        // n is 3: by -7 and -5 it goes to -3 and -2, -5 and -4; by 0 and -7 to -3 and -5.
        Check.dueText("places", Check.pointsOf(p, 0), "9,9 12,9 6,7 12,6 4,5 12,4 2,4 12,2");
    }

    private static void columnsWithoutRows() {
        Check.says("Its shift and pull do not matter.");
        Stitchpath p = new Stitchpath();
        Check.make(p, 0, 0, true, 5, 1, 5, 4, 8, 4, 8, 1);
        for (int shift = 0; shift <= 11; shift += 11) {
            for (int pull = 0; pull <= 3; pull += 3) {
                for (int length = 1; length <= 12; length += 11) {
                    p.sew(0, 8, length, shift, pull, false);
                    Check.dueText("shift " + shift + ", pull " + pull + ", length " + length,
                            Check.commandsOf(p), "J5,1 S3,0 S-3,3 S3,0 E");
                }
            }
        }
    }
}
