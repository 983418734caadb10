/** Promises 7 to 13 with the terms ORDERS, COMMANDS and THE RASTER, TIME, THREAD: a test for each edge. */
public final class CommandEdgesTest {
    private static final int[] FAR = {Integer.MIN_VALUE, -256, 256, 1 << 16, Integer.MAX_VALUE};

    public static void main(String[] args) {
        endAlone();
        endOnce();
        noSuchCommands();
        whats();
        fieldOrNone();
        kindsCounted();
        countedAnew();
        beginsWithoutColour();
        fieldsWithoutPoints();
        byLayers();
        colourOfNowFirst();
        colourKeptAcrossLayers();
        nearestFirstNeedlePoint();
        nearestBySquare();
        lowestNumber();
        stopsButNotFirst();
        trimsAboveBound();
        trimsAheadOfFirst();
        noTrimWhereNeedleIs();
        stopThenTrimThenJump();
        jumpsIfNotThere();
        stitchesUpToTwelve();
        noCommandIfOne();
        timeWithoutFields();
        timeByDifferences();
        timeOfOthers();
        timeInOrder();
        threadColours();
        threadRoundsDown();
        threadOfStitchesAlone();
        coveredFraction();
        coveredAtTheEdges();
        coveredLessThanDensityAway();
        coveredDensityBehind();
        coveredOfFourSpans();
        coveredWithoutPull();
        coveredByItself();
        coveredNone();
        cellsOfSpans();
        touchedPlaces();
        touchedByGreaterDifference();
        touchedBeyond();
        touchedOnce();
        touchedByItself();
        Check.end();
    }

    /** A column whose points are A, another one, A and the other one again. */
    private static Stitchpath thereAndBack(int x, int y, int otherX, int otherY) {
        Stitchpath p = new Stitchpath();
        Check.make(p, 0, 0, true, x, y, x, y, otherX, otherY, otherX, otherY);
        p.sew(0, 8, 6, 0, 0, false);
        p.bound(100);
        return p;
    }

    // ---- promises 7 to 9

    private static void endAlone() {
        Check.says("Returns how many commands there are, END with them.");
        Stitchpath p = new Stitchpath();
        Check.due("no field", p.commands(), 1);
        Check.due("END", p.ofCommand(0, 0), Stitchpath.END);
        p.field(0, 0, false);
        Check.due("a field without corners", p.commands(), 1);
        Check.point(p, 0, 0, 0, 0);
        Check.due("a needle point where the needle is", p.commands(), 1);
        Check.point(p, 0, 0, 1, 0);
        Check.due("a JUMP", p.commands(), 2);
    }

    private static void endOnce() {
        Check.says("At the end is END.");
        Stitchpath p = thereAndBack(1, 1, 4, 4);
        Check.dueText("commands", Check.commandsOf(p), "J1,1 S3,3 S-3,-3 S3,3 E");
        Check.due("how many", p.commands(), 5);
        Check.due("END", p.count(Stitchpath.END), 1);
    }

    private static void noSuchCommands() {
        Check.says("Throws `IndexOutOfBoundsException` if there is no such command");
        Stitchpath p = thereAndBack(1, 1, 4, 4);
        Check.due("command 4", p.ofCommand(4, 0), Stitchpath.END);
        Check.due("command 0", p.ofCommand(0, 0), Stitchpath.JUMP);
        Check.noSuch("command 5", () -> p.ofCommand(5, 0));
        Check.noSuch("command -1", () -> p.ofCommand(-1, 0));
        for (int far : FAR) {
            Check.noSuch("command " + far, () -> p.ofCommand(far, 0));
        }
        p.sew(0, 1, 6, 0, 0, false);
        p.scale(0, 1);
        Check.noSuch("a command that was", () -> p.ofCommand(1, 0));
    }

    private static void whats() {
        Check.says("`what`: 0 STITCH to END; 1 its difference of x; 2 of y; 3 its field, of a STITCH or a JUMP,"
                + " NONE of others");
        Stitchpath p = thereAndBack(9, 9, 5, 7);
        Check.badArgument("what -1", () -> p.ofCommand(1, -1));
        Check.badArgument("what 4", () -> p.ofCommand(1, 4));
        for (int far : FAR) {
            Check.badArgument("what " + far, () -> p.ofCommand(1, far));
        }
        Check.due("what 0", p.ofCommand(1, 0), Stitchpath.STITCH);
        Check.due("what 1", p.ofCommand(1, 1), -4);
        Check.due("what 2", p.ofCommand(1, 2), -2);
        Check.due("what 3", p.ofCommand(1, 3), 0);
    }

    private static void fieldOrNone() {
        Check.says("3 its field, of a STITCH or a JUMP, NONE of others");
        Stitchpath p = new Stitchpath();
        Check.make(p, 1, 0, true, 0, 0, 0, 0, 0, 14, 0, 14);
        Check.point(p, 2, 1, 30, 30);
        for (int i = 2; i < 7; i++) {
            p.field(0, 0, false);
        }
        Check.point(p, 2, 2, 29, 30);
        p.sew(0, 8, 6, 0, 0, false);
        Check.dueText("commands", Check.commandsOf(p), "J0,14 J0,-14 J0,14 P T J30,16 J-1,0 E");
        Check.dueText("a JUMP within the field 0, one to 1, one to 7", Check.ownersOf(p), "000--17-");
        for (int i = 3; i < 8; i += i == 4 ? 3 : 1) {
            Check.due("no difference of x", p.ofCommand(i, 1), 0);
            Check.due("no difference of y", p.ofCommand(i, 2), 0);
        }
    }

    private static void kindsCounted() {
        Check.says("`kind`: STITCH to END");
        Stitchpath p = new Stitchpath();
        Check.badArgument("kind -1", () -> p.count(-1));
        Check.badArgument("kind 5", () -> p.count(5));
        for (int far : FAR) {
            Check.badArgument("kind " + far, () -> p.count(far));
        }
        int[] none = {0, 0, 0, 0, 1};
        for (int kind = 0; kind < 5; kind++) {
            Check.due("kind " + kind + " without fields", p.count(kind), none[kind]);
        }
        Check.make(p, 0, 0, true, 1, 1, 1, 1, 2, 1, 2, 1);
        Check.point(p, 1, 1, 20, 20);
        Check.point(p, 1, 2, 20, 30);
        int[] some = {3, 3, 2, 1, 1};
        for (int kind = 0; kind < 5; kind++) {
            Check.due("kind " + kind, p.count(kind), some[kind]);
        }
    }

    private static void countedAnew() {
        Check.says("Returns the sum of its stitches.");
        Stitchpath p = thereAndBack(1, 1, 2, 1);
        Check.due("STITCHes", p.count(Stitchpath.STITCH), 3);
        Check.due("thread", p.thread(0), 30);
        p.scale(0, 300);
        for (int i = 0; i < 2; i++) {
            Check.due("STITCHes when scaled", p.count(Stitchpath.STITCH), 3);
            Check.due("JUMPs when scaled", p.count(Stitchpath.JUMP), 1);
            Check.due("thread when scaled", p.thread(0), 90);
            Check.dueFloat("time when scaled", p.time(), 0.2f + 0.075f + 0.075f + 0.075f);
        }
        p.bound(0);
        Check.due("TRIMs", p.count(Stitchpath.TRIM), 1);
        p.scale(0, 1);
        for (int kind = 0; kind < 5; kind++) {
            Check.due("kind " + kind + " when all is gone", p.count(kind), kind == Stitchpath.END ? 1 : 0);
        }
        Check.due("thread when all is gone", p.thread(0), 0);
        Check.dueFloat("time when all is gone", p.time(), 0.0f);
    }

    // ---- the order of fields

    private static void beginsWithoutColour() {
        Check.says("The needle begins at 0, 0, without a colour.");
        Stitchpath p = new Stitchpath();
        Check.point(p, 0, 0, 3, 0);
        Check.point(p, 5, 0, 2, 0);
        // No colour is ahead of another one at first, not even 0.
        Check.dueText("the nearest one to 0, 0", Check.commandsOf(p), "J2,0 P J1,0 E");
    }

    private static void fieldsWithoutPoints() {
        Check.says("The fields that have needle points are sewn by layers");
        Stitchpath p = new Stitchpath();
        Check.make(p, 1, 0, false, 0, 0, 1, 0);
        Check.make(p, 2, 0, true, 0, 0, 1, 0, 1, 1);
        Check.box(p, 0, 1, 9, 1);
        Check.dueText("none", Check.commandsOf(p), "E");
        Check.point(p, 3, 3, 1, 1);
        p.field(4, 3, true);
        Check.point(p, 3, 3, 2, 2);
        Check.dueText("they neither stop nor draw the needle", Check.commandsOf(p), "J1,1 J1,1 E");
    }

    private static void byLayers() {
        Check.says("The fields that have needle points are sewn by layers");
        Stitchpath p = new Stitchpath();
        Check.point(p, 0, 3, 1, 0);
        Check.point(p, 0, 2, 2, 0);
        Check.point(p, 0, 1, 3, 0);
        Check.point(p, 1, 0, 31, 31);
        Check.point(p, 0, 3, 30, 31);
        // The colour 0 is left for the colour 1 of a lesser layer.
        Check.dueText("by layers", Check.ownersOf(p).replace("-", ""), "32104");
    }

    private static void colourOfNowFirst() {
        Check.says("in a layer, of those left, those of the colour of now come first, if there are some");
        Stitchpath p = new Stitchpath();
        Check.point(p, 2, 0, 2, 0);
        Check.point(p, 1, 0, 1, 0);
        Check.point(p, 1, 0, 31, 31);
        Check.point(p, 1, 0, 31, 0);
        Check.point(p, 3, 0, 30, 31);
        // All of 1; then none is left of it, and 3 is the nearest; then 2.
        Check.dueText("by colours", Check.ownersOf(p).replace("-", ""), "13240");
        Check.due("STOPs", p.count(Stitchpath.STOP), 2);
    }

    private static void colourKeptAcrossLayers() {
        Check.says("in a layer, of those left, those of the colour of now come first, if there are some");
        Stitchpath p = new Stitchpath();
        Check.point(p, 4, 0, 1, 1);
        Check.point(p, 2, 1, 1, 2);
        Check.point(p, 4, 1, 31, 31);
        Check.point(p, 2, 2, 31, 30);
        Check.point(p, 4, 2, 1, 3);
        Check.dueText("across layers", Check.ownersOf(p).replace("-", ""), "02134");
        Check.due("STOPs", p.count(Stitchpath.STOP), 2);
    }

    private static void nearestFirstNeedlePoint() {
        Check.says("of these the one whose first needle point is the nearest, by the square of the distance,"
                + " of several the lowest number.");
        Stitchpath p = new Stitchpath();
        Check.box(p, 6, 0, 9, 1);
        Check.box(p, 8, 0, 9, 1);
        Check.dueText("without a pull", Check.ownersOf(p).substring(0, 1), "0");
        p.sew(1, 8, 6, 0, 3, false);
        Check.dueText("the pull brings it nearer", Check.ownersOf(p).substring(0, 1), "1");
        Stitchpath q = new Stitchpath();
        Check.box(q, 6, 0, 9, 1);
        Check.make(q, 0, 0, false, 7, 0, 1, 1, 9, 2);
        q.sew(1, 1, 6, 0, 0, true);
        Check.dueText("the first corner of an underlay", Check.ownersOf(q).substring(0, 1), "0");
        q.sew(0, 1, 6, 0, 0, true);
        q.scale(1, 75);
        Check.dueText("the same, nearer", Check.ownersOf(q).substring(0, 1), "1");
        Stitchpath r = new Stitchpath();
        Check.make(r, 0, 0, true, 5, 0, 0, 0, 0, 0, 0, 0);
        Check.point(r, 0, 0, 4, 0);
        Check.dueText("the last needle point does not matter", Check.ownersOf(r).substring(0, 2), "10");
    }

    private static void nearestBySquare() {
        Check.says("by the square of the distance");
        Stitchpath p = new Stitchpath();
        Check.point(p, 0, 0, 5, 5);
        Check.point(p, 0, 0, 7, 0);
        Check.dueText("49 is less than 50", Check.ownersOf(p), "10-");
        Stitchpath q = new Stitchpath();
        Check.point(q, 0, 0, 0, 6);
        Check.point(q, 0, 0, 4, 4);
        Check.dueText("32 is less than 36", Check.ownersOf(q), "10-");
        Stitchpath r = new Stitchpath();
        Check.point(r, 0, 0, 10, 10);
        Check.point(r, 0, 1, 20, 10);
        Check.point(r, 0, 1, 3, 10);
        Check.dueText("49 back is less than 100", Check.ownersOf(r).replace("-", ""), "021");
    }

    private static void lowestNumber() {
        Check.says("of several the lowest number.");
        Stitchpath p = new Stitchpath();
        Check.point(p, 3, 0, 5, 0);
        Check.point(p, 3, 0, 0, 5);
        Check.point(p, 3, 0, 3, 4);
        Check.point(p, 3, 0, 4, 3);
        Check.dueText("four at 25", Check.ownersOf(p), "0321-");
        Stitchpath q = new Stitchpath();
        for (int i = 0; i < 8; i++) {
            Check.point(q, i % 6, 0, 1, 1);
        }
        // At one place: by colours, each with the lowest number first.
        Check.dueText("eight at one place", Check.commandsOf(q), "J1,1 P P P P P E");
        Stitchpath r = new Stitchpath();
        Check.make(r, 1, 0, true, 2, 2, 2, 2, 4, 2, 4, 2);
        Check.make(r, 1, 0, true, 2, 2, 2, 2, 2, 5, 2, 5);
        Check.dueText("two from one place", Check.ownersOf(r).substring(0, 4), "0000");
    }

    // ---- STOP, TRIM, JUMP

    private static void stopsButNotFirst() {
        Check.says("To a field of another colour than that of now goes a STOP, but not to the first one");
        for (int colour = 0; colour < 6; colour++) {
            Stitchpath p = new Stitchpath();
            Check.point(p, colour, 0, 1, 1);
            Check.dueText("the first one", Check.commandsOf(p), "J1,1 E");
            Check.point(p, colour, 1, 2, 2);
            Check.dueText("the same colour", Check.commandsOf(p), "J1,1 J1,1 E");
            Check.point(p, (colour + 1) % 6, 2, 3, 3);
            Check.dueText("another colour", Check.commandsOf(p), "J1,1 J1,1 P J1,1 E");
            Check.point(p, colour, 3, 4, 4);
            Check.dueText("the first colour again", Check.commandsOf(p), "J1,1 J1,1 P J1,1 P J1,1 E");
        }
    }

    private static void trimsAboveBound() {
        Check.says("if its first point is not where the needle is, and the square of the distance is above that"
                + " of the bound, 8 at first, a TRIM");
        int[][] at = {{8, 0}, {0, 8}, {8, 1}, {1, 8}, {9, 0}, {5, 6}, {6, 5}, {5, 7}};
        boolean[] far = {false, false, true, true, true, false, false, true};
        for (int i = 0; i < at.length; i++) {
            Stitchpath p = new Stitchpath();
            Check.point(p, 0, 0, at[i][0], at[i][1]);
            Check.due("a TRIM to " + at[i][0] + ", " + at[i][1], p.count(Stitchpath.TRIM), far[i] ? 1 : 0);
        }
        Stitchpath q = new Stitchpath();
        Check.point(q, 0, 0, 3, 4);
        q.bound(4);
        Check.due("25 is above 16", q.count(Stitchpath.TRIM), 1);
        q.bound(5);
        Check.due("25 is not above 25", q.count(Stitchpath.TRIM), 0);
        Stitchpath r = new Stitchpath();
        Check.point(r, 0, 0, 1, 1);
        r.bound(1);
        Check.due("2 is above 1", r.count(Stitchpath.TRIM), 1);
        r.bound(2);
        Check.due("2 is not above 4", r.count(Stitchpath.TRIM), 0);
    }

    private static void trimsAheadOfFirst() {
        Check.says("a TRIM, also ahead of the first field");
        Stitchpath p = new Stitchpath();
        Check.point(p, 3, 2, 31, 31);
        Check.dueText("the first field", Check.commandsOf(p), "T J31,31 E");
    }

    private static void noTrimWhereNeedleIs() {
        Check.says("if its first point is not where the needle is");
        Stitchpath p = new Stitchpath();
        p.bound(0);
        Check.point(p, 0, 0, 0, 0);
        Check.dueText("where the needle begins", Check.commandsOf(p), "E");
        Check.make(p, 1, 1, true, 0, 0, 0, 0, 1, 0, 1, 0);
        Check.point(p, 2, 2, 1, 0);
        Check.point(p, 3, 3, 2, 0);
        Check.dueText("where the needle is then", Check.commandsOf(p), "P S1,0 S-1,0 S1,0 P P T J1,0 E");
    }

    private static void stopThenTrimThenJump() {
        Check.says("then a JUMP to it, if it is not there.");
        Stitchpath p = new Stitchpath();
        Check.point(p, 0, 0, 1, 1);
        Check.point(p, 1, 0, 20, 1);
        Check.point(p, 1, 0, 22, 1);
        Check.dueText("a STOP, a TRIM and a JUMP", Check.commandsOf(p), "J1,1 P T J19,0 J2,0 E");
    }

    private static void jumpsIfNotThere() {
        Check.says("then a JUMP to it, if it is not there.");
        Stitchpath p = new Stitchpath();
        Check.box(p, 1, 0, 4, 1);
        Check.box(p, 4, 0, 6, 1);
        Check.dueText("the second begins where the first ends", Check.commandsOf(p), "J1,0 S3,0 S2,0 E");
        Check.dueText("its STITCH is its own", Check.ownersOf(p), "001-");
        Stitchpath q = new Stitchpath();
        Check.box(q, 0, 0, 3, 1);
        Check.box(q, 4, 0, 6, 1);
        Check.dueText("a JUMP of 1 all the same", Check.commandsOf(q), "S3,0 J1,0 S2,0 E");
    }

    private static void stitchesUpToTwelve() {
        Check.says("From one needle point of a field to the next one goes a STITCH, if both differences are"
                + " at most 12 without sign, otherwise a JUMP; none if they are one.");
        int[][] near = {{12, 0}, {0, 12}, {12, 12}, {12, 11}, {1, 12}};
        for (int[] d : near) {
            String text = d[0] + "," + d[1];
            String back = (d[0] == 0 ? "0" : "-" + d[0]) + "," + (d[1] == 0 ? "0" : "-" + d[1]);
            Check.dueText(text, Check.commandsOf(thereAndBack(1, 1, 1 + d[0], 1 + d[1])),
                    "J1,1 S" + text + " S" + back + " S" + text + " E");
        }
        int[][] far = {{13, 0}, {0, 13}, {13, 13}, {13, 12}, {1, 13}, {12, 13}, {30, 30}};
        for (int[] d : far) {
            String text = d[0] + "," + d[1];
            String back = (d[0] == 0 ? "0" : "-" + d[0]) + "," + (d[1] == 0 ? "0" : "-" + d[1]);
            Check.dueText(text, Check.commandsOf(thereAndBack(1, 1, 1 + d[0], 1 + d[1])),
                    "J1,1 J" + text + " J" + back + " J" + text + " E");
        }
    }

    private static void noCommandIfOne() {
        Check.says("none if they are one.");
        Stitchpath p = thereAndBack(3, 3, 3, 3);
        Check.dueText("four points at one place", Check.commandsOf(p), "J3,3 E");
        Stitchpath q = new Stitchpath();
        Check.make(q, 0, 0, false, 1, 1, 5, 1, 9, 5, 5, 5);
        q.sew(0, 8, 12, 0, 0, true);
        Check.dueText("an underlay ends where the row begins", Check.commandsOf(q),
                "J1,1 S4,0 S4,4 S-4,0 S-4,-4 S4,0 E");
    }

    // ---- promises 10 and 11

    private static void timeWithoutFields() {
        Check.says("Time is a float, summed command by command");
        Stitchpath p = new Stitchpath();
        Check.dueFloat("END alone", p.time(), 0.0f);
        p.field(0, 0, false);
        Check.dueFloat("a field without corners", p.time(), 0.0f);
    }

    private static void timeByDifferences() {
        Check.says("a STITCH 0.075, if both differences are at most 4, otherwise 0.1");
        int[][] at = {{14, 10}, {10, 14}, {14, 14}, {6, 10}, {10, 6}, {6, 6}, {6, 14},
            {15, 10}, {10, 15}, {15, 15}, {5, 10}, {10, 5}, {5, 5}, {14, 15}, {15, 14}, {6, 5}, {22, 22}};
        for (int i = 0; i < at.length; i++) {
            float each = i < 7 ? 0.075f : 0.1f;
            float due = 0.2f;
            due += each;
            due += each;
            due += each;
            Check.dueFloat("to " + at[i][0] + ", " + at[i][1], thereAndBack(10, 10, at[i][0], at[i][1]).time(), due);
        }
    }

    private static void timeOfOthers() {
        Check.says("a JUMP 0.2, a TRIM 6.0, a STOP 8.0 seconds.");
        Stitchpath p = new Stitchpath();
        Check.point(p, 0, 0, 1, 0);
        Check.dueFloat("a JUMP", p.time(), 0.2f);
        p.bound(0);
        Check.dueFloat("a TRIM and a JUMP", p.time(), 6.0f + 0.2f);
        Check.point(p, 1, 0, 1, 0);
        Check.dueFloat("and a STOP", p.time(), 6.0f + 0.2f + 8.0f);
        Stitchpath q = thereAndBack(0, 0, 30, 30);
        q.write(Stitchpath.SHORT);
        Check.dueFloat("a JUMP that a file cuts is one JUMP", q.time(), 0.2f + 0.2f + 0.2f);
    }

    private static void timeInOrder() {
        Check.says("Time is a float, summed command by command");
        Stitchpath p = new Stitchpath();
        Check.box(p, 0, 0, 31, 31);
        p.sew(0, 1, 1, 0, 0, false);
        float due = 0.0f;
        for (int i = 0; i < 31 * 31 + 30; i++) {
            due += 0.075f;
        }
        Check.due("STITCHes", p.count(Stitchpath.STITCH), 31 * 31 + 30);
        Check.dueFloat("with the loss of each sum", p.time(), due);
        if (due == 0.075f * (31 * 31 + 30)) {
            Check.tell("the example has no loss");
        }
    }

    private static void threadColours() {
        Check.says("`colour`: 0 to 5");
        Stitchpath p = new Stitchpath();
        Check.badArgument("colour -1", () -> p.thread(-1));
        Check.badArgument("colour 6", () -> p.thread(6));
        for (int far : FAR) {
            Check.badArgument("colour " + far, () -> p.thread(far));
        }
        Check.make(p, 0, 0, true, 1, 1, 1, 1, 2, 1, 2, 1);
        Check.make(p, 5, 0, true, 1, 1, 1, 1, 1, 3, 1, 3);
        Check.make(p, 5, 3, true, 1, 1, 1, 1, 1, 4, 1, 4);
        p.sew(1, 8, 6, 0, 0, false);
        p.sew(2, 8, 6, 0, 0, false);
        int[] due = {30, 0, 0, 0, 0, 60 + 90};
        for (int colour = 0; colour < 6; colour++) {
            Check.due("thread of " + colour, p.thread(colour), due[colour]);
        }
    }

    private static void threadRoundsDown() {
        Check.says("The thread of a STITCH is the whole root of 100 times the square of its length.");
        int[][] at = {{1, 0, 10}, {0, 1, 10}, {1, 1, 14}, {3, 4, 50}, {4, 3, 50}, {2, 1, 22}, {5, 12, 130},
            {12, 0, 120}, {12, 12, 169}, {11, 12, 162}, {7, 7, 98}, {6, 8, 100}, {12, 1, 120}};
        for (int[] each : at) {
            Check.due("thrice " + each[0] + ", " + each[1],
                    thereAndBack(10, 10, 10 + each[0], 10 + each[1]).thread(0), 3 * each[2]);
            Check.due("thrice -" + each[0] + ", " + each[1],
                    thereAndBack(12, 10, 12 - each[0], 10 + each[1]).thread(0), 3 * each[2]);
        }
        for (int x = 0; x <= 12; x++) {
            for (int y = 0; y <= 12; y++) {
                int thread = thereAndBack(12, 12, 12 - x, 12 + y).thread(0);
                int root = thread / 3;
                int square = 100 * (x * x + y * y);
                Check.due("thrice " + x + ", " + y, thread, 3 * root);
                Check.due(root + " is not above the root of " + square, root * root <= square ? 1 : 0, 1);
                Check.due(root + " and 1 is", (root + 1) * (root + 1) > square ? 1 : 0, 1);
            }
        }
    }

    private static void threadOfStitchesAlone() {
        Check.says("Returns the sum of its stitches.");
        Check.due("JUMPs have none", thereAndBack(1, 1, 14, 1).thread(0), 0);
        Stitchpath p = new Stitchpath();
        Check.due("no field has none", p.thread(0), 0);
        Check.point(p, 0, 0, 5, 5);
        Check.due("one point has none", p.thread(0), 0);
    }

    // ---- promises 12 and 13

    private static void coveredFraction() {
        Check.says("Returns how much of a field is covered: the cells that are, made a float,"
                + " divided by all of it, made a float.");
        Stitchpath p = new Stitchpath();
        Check.make(p, 0, 0, false, 1, 1, 9, 9, 1, 9);
        p.sew(0, 4, 12, 0, 0, false);
        // Rows 1 to 8 have 1 to 8 cells. The rows 1 and 5 are sewn, with 1 to 5; 6, 7, 8 have no stitch.
        Check.dueFloat("30 of 36", p.covered(0), 30.0f / 36.0f);
        p.sew(0, 2, 12, 0, 0, false);
        // The rows 1, 3, 5, 7 are sewn, with 1 to 7, and 8 is not.
        Check.dueFloat("35 of 36", p.covered(0), 35.0f / 36.0f);
        p.sew(0, 1, 12, 0, 0, false);
        Check.dueFloat("all", p.covered(0), 1.0f);
    }

    private static void coveredAtTheEdges() {
        Check.says("Places are whole steps, columns x and rows y, 0 to 31.");
        int[][] corners = {{0, 0, 8, 8, 0, 8}, {31, 0, 31, 8, 23, 8}, {0, 23, 8, 31, 0, 31}, {31, 23, 31, 31, 23, 31}};
        for (int[] each : corners) {
            Stitchpath p = new Stitchpath();
            Check.make(p, 0, 0, false, each);
            p.sew(0, 4, 12, 0, 0, false);
            Check.dueFloat("30 of 36 from " + each[0] + ", " + each[1], p.covered(0), 30.0f / 36.0f);
        }
        Stitchpath q = new Stitchpath();
        Check.make(q, 0, 0, false, 13, 31, 13, 27, 28, 31);
        q.sew(0, 2, 3, 0, 0, true);
        // 21, 30 is two from 21, 28, behind the row 29 that ends at 20, and one from the underlay's 21, 31.
        Check.dueFloat("covered from the row 31 alone", q.covered(0), 1.0f);
    }

    private static void coveredDensityBehind() {
        Check.says("It is covered if a STITCH of the field touches one in that column, less than the density away.");
        Stitchpath p = new Stitchpath();
        Check.make(p, 0, 0, false, 1, 1, 11, 1, 7, 5, 13, 7, 1, 7);
        p.sew(0, 4, 12, 0, 0, false);
        // Cells to 11, 10, 9, 8, 7, 10. From 11, 1 to 7, 5 a STITCH touches 10, 2, which is 4 ahead of 10, 6,
        // and 9, 3, which is 3 ahead of 9, 6.
        Check.dueFloat("all but 10, 6", p.covered(0), 54.0f / 55.0f);
    }

    private static void coveredOfFourSpans() {
        Check.says("The crossings, by size, make spans, two by two.");
        Stitchpath p = new Stitchpath();
        Check.make(p, 0, 0, false, 1, 1, 3, 9, 9, 1, 11, 9, 17, 1, 19, 9, 25, 1, 27, 9);
        p.sew(0, 8, 12, 0, 0, false);
        Check.dueText("the row 1", Check.pointsOf(p, 0), "1,1 9,1 17,1 25,1");
        // The rows have 4, 10, 15, 16, 19, 16, 15, 10 cells; 26 has no stitch, in the last four of them.
        Check.dueFloat("all but four", p.covered(0), 101.0f / 105.0f);
    }

    private static void coveredLessThanDensityAway() {
        Check.says("It is covered if a STITCH of the field touches one in that column, less than the density away.");
        Stitchpath p = new Stitchpath();
        Check.make(p, 0, 0, false, 1, 1, 1, 6, 21, 6);
        p.sew(0, 4, 12, 0, 0, false);
        // Cells 1, 5, 9, 13, 17; a JUMP from 1, 1 to the row 5, which is 4 away from it, 3 from the row 2.
        Check.dueFloat("all but one", p.covered(0), 44.0f / 45.0f);
        p.sew(0, 5, 12, 0, 0, false);
        Check.dueFloat("one point has no STITCH", p.covered(0), 0.0f);
        Stitchpath q = new Stitchpath();
        // The row 1 is sewn, and the row 8 is the last one.
        Check.make(q, 0, 0, false, 1, 1, 2, 1, 2, 9, 1, 9);
        q.sew(0, 8, 12, 0, 0, false);
        Check.dueFloat("7 rows behind is less than 8", q.covered(0), 1.0f);
        Stitchpath r = new Stitchpath();
        Check.make(r, 0, 0, false, 1, 1, 1, 5, 21, 9, 21, 5);
        r.sew(0, 8, 12, 0, 0, false);
        // The row 1 alone, with one point.
        Check.dueFloat("no STITCH in the row 1", r.covered(0), 0.0f);
    }

    private static void coveredWithoutPull() {
        Check.says("if the row y of it, sewn or not, has a span, without the pull, from at most x to at least x.");
        Stitchpath p = new Stitchpath();
        Check.make(p, 0, 0, false, 1, 1, 9, 9, 1, 9);
        p.sew(0, 4, 12, 0, 1, false);
        // The row 5 goes from 0 to 6: only 7 has no stitch, in two cells, and 8, in one.
        Check.dueFloat("33 of 36", p.covered(0), 33.0f / 36.0f);
    }

    private static void coveredByItself() {
        Check.says("It is covered if a STITCH of the field touches one in that column");
        Stitchpath p = new Stitchpath();
        Check.make(p, 0, 0, false, 1, 1, 9, 9, 1, 9);
        p.sew(0, 4, 12, 0, 0, false);
        Check.box(p, 1, 1, 9, 9);
        p.sew(1, 1, 1, 0, 0, false);
        Check.dueFloat("another field's STITCHes do not matter", p.covered(0), 30.0f / 36.0f);
        Check.dueFloat("its own do", p.covered(1), 1.0f);
        p.sew(0, 4, 12, 0, 0, true);
        Check.dueFloat("an underlay's do", p.covered(0), 1.0f);
    }

    private static void coveredNone() {
        Check.says("Returns the part; 0.0 without cells, or for a column.");
        Stitchpath p = new Stitchpath();
        p.field(0, 0, false);
        Check.dueFloat("no corner", p.covered(0), 0.0f);
        p.corner(0, 1, 1);
        Check.dueFloat("one corner", p.covered(0), 0.0f);
        p.corner(0, 5, 1);
        p.corner(0, 9, 1);
        p.sew(0, 1, 1, 0, 0, true);
        Check.dueFloat("corners in one row", p.covered(0), 0.0f);
        Check.due("which are sewn", p.touched(0), 9);
        Check.make(p, 0, 0, true, 1, 1, 1, 9, 3, 9, 3, 1);
        p.sew(1, 1, 1, 0, 0, false);
        Check.dueFloat("a column", p.covered(1), 0.0f);
        Check.make(p, 0, 0, false, 1, 1, 5, 5);
        Check.dueFloat("two corners have no STITCH", p.covered(2), 0.0f);
    }

    private static void cellsOfSpans() {
        Check.says("A cell x, y is of a field that is no column, if the row y of it, sewn or not, has a span");
        Stitchpath p = new Stitchpath();
        // Two legs that go apart, 1 to 2 and 4 to 5 in the row 1, and between them is none.
        Check.make(p, 0, 0, false, 1, 1, 2, 1, 2, 4, 4, 4, 4, 1, 5, 1, 5, 5, 1, 5);
        p.sew(0, 8, 12, 0, 0, false);
        // A STITCH goes from the span 1 to 2 to the span 4 to 5, so that each column has one.
        Check.dueFloat("legs", p.covered(0), 1.0f);
        Stitchpath q = new Stitchpath();
        Check.make(q, 0, 0, false, 1, 1, 2, 1, 2, 3, 17, 3, 17, 1, 18, 1, 18, 5, 1, 5);
        q.sew(0, 8, 12, 0, 0, false);
        // The rows 1 and 2 have 4 cells each, the rows 3 and 4 have 18; stitches are at 1, 2, 17, 18 alone.
        Check.dueFloat("legs with a JUMP between them", q.covered(0), 16.0f / 44.0f);
        Stitchpath r = new Stitchpath();
        Check.box(r, 0, 0, 31, 31);
        r.sew(0, 1, 1, 0, 3, true);
        Check.dueFloat("as large as can be", r.covered(0), 1.0f);
        Check.due("the row 31 is touched by the underlay", r.touched(0), 1024);
        r.sew(0, 1, 1, 0, 3, false);
        Check.dueFloat("but is none of its rows", r.covered(0), 1.0f);
        Check.due("and is not touched by them", r.touched(0), 32 * 31);
    }

    private static void touchedPlaces() {
        Check.says("A STITCH touches the cells j of n of it, j from 0 to n, n the greater one of both differences.");
        Check.due("3, 1 and back on the same cells", thereAndBack(1, 1, 4, 2).touched(0), 4);
        Check.due("1, 3 and back on the same cells", thereAndBack(1, 1, 2, 4).touched(0), 4);
        // There the rows are 4, 3, 3, 3, and back 3, 3, 3, 4.
        Stitchpath p = new Stitchpath();
        Check.make(p, 0, 0, true, 1, 4, 1, 4, 4, 3, 4, 3);
        p.sew(0, 8, 6, 0, 0, false);
        Check.due("3, -1 and back on the same cells", p.touched(0), 4);
        Check.due("1, 0", thereAndBack(1, 1, 2, 1).touched(0), 2);
        Check.due("12, 12", thereAndBack(1, 1, 13, 13).touched(0), 13);
    }

    private static void touchedByGreaterDifference() {
        Check.says("A STITCH touches the cells j of n of it, j from 0 to n, n the greater one of both differences.");
        int[][] at = {{15, 11}, {5, 11}, {15, 9}, {5, 9}, {11, 15}, {11, 5}, {9, 15}, {9, 5}};
        for (int[] each : at) {
            Check.due("to " + each[0] + ", " + each[1], thereAndBack(10, 10, each[0], each[1]).touched(0), 6);
        }
    }

    private static void touchedBeyond() {
        Check.says("those beyond 0 to 31 left out.");
        Stitchpath p = new Stitchpath();
        Check.box(p, 0, 0, 31, 1);
        p.sew(0, 1, 12, 0, 3, false);
        Check.due("from -3 to 34", p.touched(0), 32);
        Stitchpath q = new Stitchpath();
        Check.make(q, 0, 0, false, 0, 0, 0, 1, 0, 3);
        q.sew(0, 1, 12, 0, 3, false);
        // From -3 to 3 in each of three rows, and between them on -3 and 3.
        Check.due("from -3 to 3", q.touched(0), 4 * 3);
        Stitchpath r = new Stitchpath();
        Check.make(r, 0, 0, false, 31, 29, 31, 30, 31, 31);
        r.sew(0, 1, 12, 0, 2, false);
        Check.due("from 29 to 33", r.touched(0), 3 * 2);
    }

    private static void touchedOnce() {
        Check.says("Counts the cells that STITCHes of a field touch, each once");
        Stitchpath p = new Stitchpath();
        Check.make(p, 0, 0, false, 1, 1, 9, 1, 1, 1, 9, 1);
        p.sew(0, 1, 3, 0, 0, true);
        Check.due("there and back, twice", p.touched(0), 9);
    }

    private static void touchedByItself() {
        Check.says("Counts the cells that STITCHes of a field touch, each once");
        Stitchpath p = thereAndBack(1, 1, 4, 1);
        Check.point(p, 0, 1, 9, 9);
        Check.due("its own STITCHes", p.touched(0), 4);
        Check.due("a JUMP to a field touches nothing", p.touched(1), 0);
        Check.due("nor one within it", thereAndBack(1, 1, 14, 1).touched(0), 0);
        p.field(0, 0, false);
        Check.due("no needle point", p.touched(2), 0);
    }
}
