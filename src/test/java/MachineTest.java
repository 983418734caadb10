/** Promises 20 to 24. */
public final class MachineTest {
    public static void main(String[] args) {
        startRefuses();
        keepsCommands();
        runs();
        noMachine();
        breakIsSeenLate();
        breakIsSeenAtEnd();
        breakIsSeenAtOnce();
        mendsFromTheFirst();
        mendsStitchesAlone();
        severalHeads();
        startsAnew();
        Check.end();
    }

    /** STITCHes of 1 along one row, as many as told, and END. */
    private static Stitchpath row(int stitches) {
        Stitchpath p = new Stitchpath();
        Check.make(p, 0, 0, false, 0, 0, stitches, 0, stitches, 1, 0, 1);
        p.sew(0, 1, 1, 0, 0, false);
        return p;
    }

    private static void startRefuses() {
        Stitchpath p = row(5);
        Check.badArgument("heads 0", () -> p.start(0, 0));
        Check.badArgument("heads 5", () -> p.start(5, 0));
        Check.badArgument("late -1", () -> p.start(1, -1));
        Check.badArgument("late 21", () -> p.start(1, 21));
        Check.badState("no machine was started", () -> p.run(1));
        p.start(4, 20);
        p.run(3);
        Check.badArgument("heads 5 behind one", () -> p.start(5, 0));
        Check.due("the machine is kept", p.sewn(3), 3);
    }

    private static void keepsCommands() {
        Stitchpath p = row(5);
        p.start(1, 0);
        p.scale(0, 200);
        p.field(0, 0, false);
        Check.due("as they were then", p.run(1000), 6);
        Check.due("sewn", p.sewn(0), 5);
        Check.due("behind END", p.run(1), 0);
    }

    private static void runs() {
        Stitchpath p = row(20);
        p.start(2, 3);
        Check.due("run(1)", p.run(1), 1);
        Check.badArgument("run(0)", () -> p.run(0));
        Check.badArgument("run(-1)", () -> p.run(-1));
        Check.badArgument("run(1001)", () -> p.run(1001));
        Check.due("run(7)", p.run(7), 7);
        Check.due("sewn", p.sewn(1), 8);
        Check.due("run(13)", p.run(13), 13);
        Check.due("sewn at END", p.sewn(1), 20);
    }

    private static void noMachine() {
        Stitchpath p = row(5);
        Check.badState("run(1)", () -> p.run(1));
        Check.badArgument("run(0)", () -> p.run(0));
        Check.badArgument("run(1001)", () -> p.run(1001));
        Check.noSuch("breaks(0)", () -> p.breaks(0));
        Check.noSuch("mend(0)", () -> p.mend(0));
        Check.noSuch("sewn(0)", () -> p.sewn(0));
        p.start(2, 0);
        Check.noSuch("breaks(2)", () -> p.breaks(2));
        Check.noSuch("breaks(-1)", () -> p.breaks(-1));
        Check.noSuch("mend(2)", () -> p.mend(2));
        Check.noSuch("mend(-1)", () -> p.mend(-1));
        Check.noSuch("sewn(2)", () -> p.sewn(2));
        Check.noSuch("sewn(-1)", () -> p.sewn(-1));
    }

    private static void breakIsSeenLate() {
        Stitchpath p = row(31);
        p.start(1, 20);
        p.run(5);
        p.breaks(0);
        Check.badState("broken already", () -> p.breaks(0));
        Check.due("run(19)", p.run(19), 19);
        Check.badState("not seen yet", () -> p.mend(0));
        Check.due("sewn while broken", p.sewn(0), 5);
        Check.due("run(5) stands behind one", p.run(5), 1);
        Check.due("it stands", p.run(5), 0);
        Check.badState("broken, and seen", () -> p.breaks(0));
        Check.due("mend from 2 to 25", p.mend(0), 23);
        Check.badState("mended", () -> p.mend(0));
        Check.due("sewn, some again", p.sewn(0), 28);
        Check.due("it goes on", p.run(2), 2);
        Check.due("sewn after that", p.sewn(0), 30);
    }

    private static void breakIsSeenAtEnd() {
        Stitchpath p = row(6);
        p.start(1, 20);
        p.run(5);
        p.breaks(0);
        Check.due("to END", p.run(1000), 2);
        Check.due("mend", p.mend(0), 4);
        Check.due("sewn", p.sewn(0), 9);
        p.breaks(0);
        Check.due("broken behind END, seen at once", p.mend(0), 2);
        Check.due("sewn again", p.sewn(0), 11);
        Stitchpath q = row(6);
        q.start(1, 20);
        q.run(6);
        q.breaks(0);
        Check.badState("END was not run", () -> q.mend(0));
        Check.due("END", q.run(1), 1);
        Check.due("mend behind END", q.mend(0), 3);
    }

    private static void breakIsSeenAtOnce() {
        Stitchpath p = row(10);
        p.start(2, 0);
        p.run(4);
        p.breaks(1);
        Check.due("it stands at once", p.run(1), 0);
        Check.due("mend", p.mend(1), 3);
        Check.due("it goes on", p.run(1), 1);
        Check.due("the whole head", p.sewn(0), 5);
        Check.due("the mended head", p.sewn(1), 8);
    }

    private static void mendsFromTheFirst() {
        Stitchpath p = row(10);
        p.start(1, 2);
        p.breaks(0);
        Check.badState("not seen", () -> p.mend(0));
        Check.due("run", p.run(9), 2);
        Check.due("from the first one", p.mend(0), 2);
        p.breaks(0);
        Check.due("run on", p.run(9), 2);
        Check.due("from the first one again", p.mend(0), 4);
        Check.due("each time counted", p.sewn(0), 6);
    }

    private static void mendsStitchesAlone() {
        Stitchpath p = new Stitchpath();
        Check.make(p, 2, 0, false, 1, 2, 3, 2, 3, 4, 1, 4);
        Check.make(p, 3, 0, true, 30, 30, 30, 31, 31, 31, 31, 30);
        // JUMP, STITCH, STOP, TRIM, JUMP, three STITCHes, END.
        p.start(1, 1);
        p.run(5);
        Check.due("sewn ahead of the second field", p.sewn(0), 1);
        p.breaks(0);
        p.run(4);
        Check.due("a STITCH behind STOP, TRIM and JUMP", p.mend(0), 1);
        p.run(4);
        Check.due("sewn", p.sewn(0), 4);
    }

    private static void severalHeads() {
        Stitchpath p = row(30);
        p.start(4, 5);
        p.run(10);
        p.breaks(0);
        p.run(2);
        p.breaks(3);
        Check.due("until the first is seen", p.run(100), 3);
        p.breaks(1);
        Check.badState("the second is not seen", () -> p.mend(3));
        Check.due("it stands", p.run(1), 0);
        Check.due("mend the first", p.mend(0), 8);
        Check.due("until the second is seen", p.run(100), 2);
        Check.due("mend the second", p.mend(3), 8);
        Check.due("until the third is seen", p.run(100), 3);
        Check.due("mend the third", p.mend(1), 8);
        int[] due = {10 + 8 + 5, 15 + 8, 20, 12 + 8 + 3};
        for (int head = 0; head < 4; head++) {
            Check.due("sewn " + head, p.sewn(head), due[head]);
        }
        p.breaks(0);
        p.breaks(2);
        Check.due("until both are seen", p.run(100), 5);
        p.mend(0);
        Check.due("one is left", p.run(100), 0);
        p.mend(2);
        Check.due("both are mended", p.run(100), 6);
    }

    private static void startsAnew() {
        Stitchpath p = row(10);
        p.start(2, 5);
        p.run(4);
        p.breaks(1);
        p.start(3, 1);
        Check.due("a new one has sewn nothing", p.sewn(0), 0);
        Check.badState("and nothing is broken", () -> p.mend(1));
        Check.due("it runs from the first one", p.run(1000), 11);
        Check.due("with all heads", p.sewn(1), 10);
        p.start(1, 1);
        Check.noSuch("with less heads", () -> p.sewn(1));
    }
}
