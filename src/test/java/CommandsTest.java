/** Promises 7 to 13, and the order in which fields are sewn. */
public final class CommandsTest {
    public static void main(String[] args) {
        tellsOfCommands();
        ofCommandRefuses();
        countsKinds();
        layersGoFirst();
        coloursGoTogether();
        nearestGoesFirst();
        lowestNumberGoesFirst();
        stopsAndTrims();
        stitchesUpToTwelve();
        timeIsSummed();
        threadOfColours();
        coversInPart();
        coversByDensity();
        coversNothing();
        touches();
        Check.end();
    }

    private static void tellsOfCommands() {
        Stitchpath p = new Stitchpath();
        Check.make(p, 2, 0, false, 1, 2, 3, 2, 3, 4, 1, 4);
        Check.make(p, 3, 0, true, 30, 30, 30, 31, 31, 31, 31, 30);
        Check.dueText("commands", Check.commandsOf(p), "J1,2 S2,0 P T J27,28 S1,0 S-1,1 S1,0 E");
        Check.dueText("owners", Check.ownersOf(p), "00--1111-");
        Check.due("how many", p.commands(), 9);
        Check.due("a STITCH is 0", p.ofCommand(1, 0), 0);
        Check.due("a JUMP is 1", p.ofCommand(0, 0), 1);
        Check.due("a TRIM is 2", p.ofCommand(3, 0), 2);
        Check.due("a STOP is 3", p.ofCommand(2, 0), 3);
        Check.due("END is 4", p.ofCommand(8, 0), 4);
        Check.due("the field of END", p.ofCommand(8, 3), Stitchpath.NONE);
    }

    private static void ofCommandRefuses() {
        Stitchpath p = new Stitchpath();
        Check.noSuch("ofCommand(-1, 0)", () -> p.ofCommand(-1, 0));
        Check.noSuch("ofCommand(1, 9)", () -> p.ofCommand(1, 9));
        Check.badArgument("what -1", () -> p.ofCommand(0, -1));
        Check.badArgument("what 4", () -> p.ofCommand(0, 4));
        Check.due("what 3", p.ofCommand(0, 3), -1);
    }

    private static void countsKinds() {
        Stitchpath p = new Stitchpath();
        Check.make(p, 2, 0, false, 1, 2, 3, 2, 3, 4, 1, 4);
        Check.make(p, 3, 0, true, 30, 30, 30, 31, 31, 31, 31, 30);
        int[] due = {4, 2, 1, 1, 1};
        for (int kind = 0; kind < 5; kind++) {
            Check.due("count " + kind, p.count(kind), due[kind]);
        }
        Check.badArgument("count(-1)", () -> p.count(-1));
        Check.badArgument("count(5)", () -> p.count(5));
    }

    /** A small column at a place, which ends at the place one to the right and one below. */
    private static int dot(Stitchpath p, int colour, int layer, int x, int y) {
        int number = Check.make(p, colour, layer, true, x, y, x, y + 1, x + 1, y + 1, x + 1, y);
        p.sew(number, 8, 6, 0, 0, false);
        return number;
    }

    private static String orderOf(Stitchpath p) {
        StringBuilder text = new StringBuilder();
        int last = Stitchpath.NONE;
        for (int i = 0; i < p.commands(); i++) {
            int owner = p.ofCommand(i, 3);
            if (owner != Stitchpath.NONE && owner != last) {
                text.append(owner);
                last = owner;
            }
        }
        return text.toString();
    }

    private static void layersGoFirst() {
        Stitchpath p = new Stitchpath();
        dot(p, 0, 3, 1, 1);
        dot(p, 0, 1, 2, 2);
        dot(p, 0, 2, 3, 3);
        dot(p, 1, 0, 30, 30);
        Check.dueText("by layers", orderOf(p), "3120");
    }

    private static void coloursGoTogether() {
        Stitchpath p = new Stitchpath();
        dot(p, 0, 0, 4, 4);
        dot(p, 1, 0, 6, 4);
        dot(p, 0, 0, 30, 4);
        dot(p, 1, 1, 6, 6);
        dot(p, 0, 1, 30, 7);
        // Colour 0 first, for it is nearest; then 1, kept into the next layer.
        Check.dueText("by colours", orderOf(p), "02134");
        Check.due("STOPs", p.count(Stitchpath.STOP), 2);
    }

    private static void nearestGoesFirst() {
        Stitchpath p = new Stitchpath();
        dot(p, 0, 0, 20, 0);
        dot(p, 0, 0, 5, 5);
        dot(p, 0, 0, 8, 0);
        dot(p, 0, 0, 9, 9);
        // 5, 5 is nearer to 0, 0 than 8, 0 is; from 6, 6 on 9, 9 is nearer than 8, 0.
        Check.dueText("the nearest", orderOf(p), "1320");
    }

    private static void lowestNumberGoesFirst() {
        Stitchpath p = new Stitchpath();
        dot(p, 0, 0, 5, 0);
        dot(p, 1, 0, 0, 5);
        dot(p, 2, 0, 3, 4);
        Check.dueText("the lowest number", orderOf(p), "021");
        Check.dueText("a colour at the first field is no STOP", Check.commandsOf(p).substring(0, 4), "J5,0");
    }

    private static void stopsAndTrims() {
        Stitchpath p = new Stitchpath();
        dot(p, 4, 0, 0, 0);
        dot(p, 5, 1, 1, 1);
        dot(p, 5, 2, 10, 2);
        dot(p, 5, 3, 20, 3);
        // 1, 1 is where the needle is; 2, 2 to 10, 2 is 8 and no more; 11, 3 to 20, 3 is 9.
        Check.dueText("stops and trims", Check.commandsOf(p),
                "S1,0 S-1,1 S1,0 P S1,0 S-1,1 S1,0 J8,0 S1,0 S-1,1 S1,0 T J9,0 S1,0 S-1,1 S1,0 E");
        p.bound(0);
        Check.due("TRIMs with a bound of 0", p.count(Stitchpath.TRIM), 2);
    }

    private static void stitchesUpToTwelve() {
        Stitchpath p = new Stitchpath();
        Check.make(p, 0, 0, true, 0, 0, 0, 12, 12, 12, 13, 0);
        p.sew(0, 8, 6, 0, 0, false);
        // To 13, 0 it is too far; from 13, 0 to 0, 6; then 12 to 12, 6 and back.
        Check.dueText("up to 12", Check.commandsOf(p), "J13,0 J-13,6 S12,0 S-12,6 S12,0 E");
        Stitchpath q = new Stitchpath();
        Check.make(q, 0, 0, true, 0, 0, 0, 0, 0, 13, 0, 12);
        q.sew(0, 8, 6, 0, 0, false);
        Check.dueText("down to 12", Check.commandsOf(q), "S0,12 S0,-12 J0,13 E");
    }

    private static void timeIsSummed() {
        Stitchpath p = new Stitchpath();
        dot(p, 0, 0, 20, 0);
        float due = 6.0f;
        due += 0.2f;
        for (int i = 0; i < 3; i++) {
            due += 0.075f;
        }
        Check.dueFloat("a TRIM, a JUMP, three STITCHes", p.time(), due);
        Check.make(p, 1, 0, true, 21, 1, 21, 1, 25, 5, 26, 6);
        p.sew(1, 8, 6, 0, 0, false);
        due += 8.0f;
        due += 0.1f;
        due += 0.1f;
        due += 0.075f;
        Check.dueFloat("a STOP, two long STITCHes, one of 4", p.time(), due);
    }

    private static void threadOfColours() {
        Stitchpath p = new Stitchpath();
        Check.make(p, 1, 0, true, 0, 0, 0, 0, 3, 4, 1, 1);
        p.sew(0, 8, 6, 0, 0, false);
        // The roots of 200, 200 and 2500; a JUMP has none.
        Check.due("thread of 1", p.thread(1), 14 + 14 + 50);
        Check.due("thread of 0", p.thread(0), 0);
        Check.make(p, 5, 1, true, 0, 0, 0, 0, 12, 12, 12, 11);
        p.sew(1, 8, 6, 0, 0, false);
        // The roots of 28800 and, twice, 26500.
        Check.due("thread of 5", p.thread(5), 162 + 162 + 169);
        Check.due("thread of 1 is not changed", p.thread(1), 14 + 14 + 50);
        Check.make(p, 1, 2, true, 0, 0, 0, 0, 1, 0, 1, 0);
        p.sew(2, 8, 6, 0, 0, false);
        Check.due("two fields of a colour", p.thread(1), 14 + 14 + 50 + 30);
        Check.badArgument("thread(-1)", () -> p.thread(-1));
        Check.badArgument("thread(6)", () -> p.thread(6));
    }

    private static void coversInPart() {
        Stitchpath p = new Stitchpath();
        Check.make(p, 0, 0, false, 10, 0, 20, 10, 0, 10);
        p.sew(0, 8, 6, 0, 0, false);
        // Of 100 cells the first and the last one of the row 9 are beyond the row 8's span.
        Check.dueFloat("a triangle", p.covered(0), 98.0f / 100.0f);
        Check.noSuch("covered(1)", () -> p.covered(1));
        Check.noSuch("covered(-1)", () -> p.covered(-1));
        Stitchpath q = new Stitchpath();
        Check.make(q, 0, 0, false, 0, 0, 2, 0, 2, 3, 15, 3, 15, 0, 17, 0, 17, 3, 0, 3);
        q.sew(0, 1, 6, 0, 0, false);
        Check.dueFloat("two spans, each whole", q.covered(0), 1.0f);
    }

    private static void coversByDensity() {
        Stitchpath p = new Stitchpath();
        Check.make(p, 0, 0, false, 0, 0, 0, 5, 20, 5);
        // The spans are 0 to 0, 4, 8, 12, 16 with a density of 2: rows 0, 2, 4.
        // Row 1 is covered up to 4; row 3 up to 12; nothing is left out.
        Check.dueFloat("density 2", p.covered(0), 1.0f);
        p.sew(0, 5, 6, 0, 0, false);
        // Only row 0 with one point, and no STITCH at all.
        Check.dueFloat("density 5", p.covered(0), 0.0f);
        p.sew(0, 4, 12, 0, 0, false);
        // A JUMP of 16 to row 4, STITCHes along it: row 0 is 4 away, rows 1 to 3 are not.
        Check.dueFloat("density 4", p.covered(0), (5 + 9 + 13 + 17) / (float) (1 + 5 + 9 + 13 + 17));
        Check.due("touched with density 4", p.touched(0), 17);
    }

    private static void coversNothing() {
        Stitchpath p = new Stitchpath();
        Check.make(p, 0, 0, true, 0, 0, 0, 4, 6, 4, 4, 0);
        Check.dueFloat("a column", p.covered(0), 0.0f);
        p.field(0, 0, false);
        Check.dueFloat("no corner", p.covered(1), 0.0f);
        Check.make(p, 0, 0, false, 0, 0, 0, 4);
        Check.dueFloat("two corners", p.covered(2), 0.0f);
        Check.make(p, 0, 0, false, 0, 1, 9, 1, 5, 1);
        p.sew(3, 1, 1, 0, 0, true);
        Check.dueFloat("stitches, but no cell", p.covered(3), 0.0f);
        Check.due("touched without a cell of its own", p.touched(3), 10);
    }

    private static void touches() {
        Stitchpath p = new Stitchpath();
        Check.make(p, 0, 0, true, 0, 0, 0, 1, 5, 2, 5, 1);
        p.sew(0, 8, 6, 0, 0, false);
        // 0,0 to 5,1: five on row 0, one on row 1. 5,1 to 0,1: all six of row 1.
        // 0,1 to 5,2: five on row 1, and 5,2.
        Check.due("touched", p.touched(0), 5 + 6 + 1);
        Check.noSuch("touched(1)", () -> p.touched(1));
        Check.noSuch("touched(-1)", () -> p.touched(-1));
        p.field(0, 0, false);
        Check.due("touched by none", p.touched(1), 0);
        Stitchpath q = new Stitchpath();
        Check.make(q, 0, 0, true, 0, 0, 0, 5, 20, 5, 20, 0);
        Check.due("JUMPs touch nothing", q.touched(0), 0);
    }
}
