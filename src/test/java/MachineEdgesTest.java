/** Promises 20 to 24 and the term THE MACHINE: a test for each sentence that names an edge. */
public final class MachineEdgesTest {
    private static final int[] FAR = {Integer.MIN_VALUE, -256, 1 << 16, Integer.MAX_VALUE};

    public static void main(String[] args) {
        headsOneToFour();
        lateToTwenty();
        inPlaceOfOne();
        commandsAsTheyAreThen();
        withoutFields();
        runsOneToThousand();
        runsAsFarAsCommands();
        noneToRun();
        noSuchHeads();
        noMachineNoHeads();
        brokenTwice();
        breaksAheadOfNext();
        seenAfterSoMany();
        seenAtOnce();
        seenOnceEndWasRun();
        seenBehindEnd();
        standsUntilEachIsMended();
        notSeenDoesNotStand();
        mendNotSeen();
        mendFromThreeAhead();
        mendFromTheFirst();
        mendWhereItIs();
        mendStitchesAlone();
        sewnWhileWhole();
        countedAgainEachTime();
        usedFor512Calls();
        Check.end();
    }

    /** STITCHes of 1 along one row, as many as told, and END. */
    private static Stitchpath row(int stitches) {
        Stitchpath p = new Stitchpath();
        Check.box(p, 0, 0, stitches, 1);
        p.sew(0, 1, 1, 0, 0, false);
        return p;
    }

    // ---- promise 20

    private static void headsOneToFour() {
        Check.says("`heads`: 1 to 4");
        Stitchpath p = row(5);
        Check.badArgument("heads 0", () -> p.start(0, 0));
        Check.badArgument("heads 5", () -> p.start(5, 0));
        Check.badArgument("heads -1", () -> p.start(-1, 0));
        for (int far : FAR) {
            Check.badArgument("heads " + far, () -> p.start(far, 0));
        }
        Check.badState("none was started", () -> p.run(1));
        for (int heads = 1; heads <= 4; heads++) {
            p.start(heads, 0);
            p.run(2);
            for (int head = 0; head < heads; head++) {
                Check.due("head " + head + " of " + heads, p.sewn(head), 2);
            }
            int none = heads;
            Check.noSuch("head " + none + " of " + heads, () -> p.sewn(none));
        }
    }

    private static void lateToTwenty() {
        Check.says("`late`: 0 to 20: how many commands later a break is seen");
        Stitchpath p = row(5);
        Check.badArgument("late -1", () -> p.start(1, -1));
        Check.badArgument("late 21", () -> p.start(1, 21));
        for (int far : FAR) {
            Check.badArgument("late " + far, () -> p.start(1, far));
        }
        Check.badState("none was started", () -> p.run(1));
        p.start(1, 0);
        p.start(1, 20);
        Check.due("started", p.run(1), 1);
    }

    private static void inPlaceOfOne() {
        Check.says("Starts a machine, in place of one.");
        Stitchpath p = row(10);
        p.start(4, 2);
        p.run(4);
        p.breaks(0);
        p.breaks(3);
        p.run(9);
        p.start(2, 9);
        Check.due("at the first command", p.run(3), 3);
        Check.due("nothing was sewn ahead", p.sewn(0), 3);
        Check.badState("nothing is broken", () -> p.mend(0));
        Check.noSuch("it has less heads", () -> p.sewn(2));
        p.start(4, 0);
        Check.due("the head 3 has sewn nothing", p.sewn(3), 0);
        p.breaks(3);
        Check.due("and broke ahead of the first command", p.mend(3), 0);
    }

    private static void commandsAsTheyAreThen() {
        Check.says("A machine begins with some heads, 1 to 4, at the first command, with the commands as they are then.");
        Stitchpath p = row(5);
        p.start(1, 0);
        p.scale(0, 400);
        // Four rows of 20, three STITCHes between them, and END.
        Check.due("commands now", p.commands(), 84);
        Check.due("commands then", p.run(1000), 6);
        Check.due("sewn", p.sewn(0), 5);
        p.start(1, 0);
        p.scale(0, 1);
        Check.due("no STITCH is left", p.commands(), 1);
        Check.due("commands then", p.run(1000), 84);
        Check.due("sewn", p.sewn(0), 83);
        p.breaks(0);
        Check.due("and sewn again", p.mend(0), 2);
    }

    private static void withoutFields() {
        Check.says("A machine begins with some heads, 1 to 4, at the first command, with the commands as they are then.");
        Stitchpath p = new Stitchpath();
        p.start(1, 20);
        p.breaks(0);
        Check.badState("END was not run", () -> p.mend(0));
        Check.due("END alone", p.run(1000), 1);
        Check.due("nothing to sew again", p.mend(0), 0);
        Check.due("sewn", p.sewn(0), 0);
    }

    // ---- promise 21

    private static void runsOneToThousand() {
        Check.says("`commands`: 1 to 1000");
        Stitchpath p = new Stitchpath();
        Check.box(p, 0, 0, 31, 31);
        p.sew(0, 1, 1, 0, 0, true);
        int all = p.commands();
        p.start(1, 0);
        Check.badArgument("commands 0", () -> p.run(0));
        Check.badArgument("commands -1", () -> p.run(-1));
        Check.badArgument("commands 1001", () -> p.run(1001));
        for (int far : FAR) {
            Check.badArgument("commands " + far, () -> p.run(far));
        }
        Check.due("it did not run", p.sewn(0), 0);
        Check.due("commands 1000", p.run(1000), 1000);
        Check.due("sewn", p.sewn(0), 1000);
        Check.due("commands 1", p.run(1), 1);
        Check.due("sewn", p.sewn(0), 1001);
        // 124 around, 31 rows of 31, and 30 between them.
        Check.due("there are", all, 124 + 31 * 31 + 30 + 1);
        Check.due("the others", p.run(1000), all - 1001);
    }

    private static void runsAsFarAsCommands() {
        Check.says("Lets the machine run, as far as it does not stand, and there are commands.");
        Stitchpath p = row(5);
        p.start(1, 0);
        Check.due("all but END", p.run(5), 5);
        Check.due("END", p.run(2), 1);
        Check.due("none", p.run(1), 0);
        Check.due("none again", p.run(1000), 0);
        p.start(1, 3);
        Check.due("just all", p.run(6), 6);
        Check.due("none", p.run(1), 0);
        Check.due("sewn", p.sewn(0), 5);
    }

    private static void noneToRun() {
        Check.says("Throws `IllegalStateException` if there is none");
        Stitchpath p = row(5);
        Check.badState("none", () -> p.run(1));
        Check.badState("none, 1000", () -> p.run(1000));
        Check.badArgument("heads 0", () -> p.start(0, 0));
        Check.badState("none still", () -> p.run(1));
    }

    // ---- promises 22 to 24

    private static void noSuchHeads() {
        Check.says("Throws `IndexOutOfBoundsException` if there is no such head, or no machine");
        Stitchpath p = row(5);
        for (int heads = 1; heads <= 4; heads++) {
            p.start(heads, 0);
            int[] none = {-1, heads, 4, 5, Integer.MIN_VALUE, Integer.MAX_VALUE};
            for (int head : none) {
                Check.noSuch("breaks " + head + " of " + heads, () -> p.breaks(head));
                Check.noSuch("mend " + head + " of " + heads, () -> p.mend(head));
                Check.noSuch("sewn " + head + " of " + heads, () -> p.sewn(head));
            }
            Check.due("the last one", p.sewn(heads - 1), 0);
            p.breaks(heads - 1);
            Check.due("is mended", p.mend(heads - 1), 0);
        }
    }

    private static void noMachineNoHeads() {
        Check.says("Throws `IndexOutOfBoundsException` if there is no such head, or no machine");
        Stitchpath p = row(5);
        int[] heads = {-1, 0, 1, 3, 4, Integer.MAX_VALUE};
        for (int head : heads) {
            Check.noSuch("breaks " + head, () -> p.breaks(head));
            Check.noSuch("mend " + head, () -> p.mend(head));
            Check.noSuch("sewn " + head, () -> p.sewn(head));
        }
    }

    private static void brokenTwice() {
        Check.says("Throws `IllegalStateException` if it is broken");
        Stitchpath p = row(10);
        p.start(2, 2);
        p.breaks(0);
        Check.badState("not seen yet", () -> p.breaks(0));
        p.breaks(1);
        p.run(2);
        Check.badState("seen", () -> p.breaks(0));
        p.mend(0);
        p.breaks(0);
        Check.badState("broken again", () -> p.breaks(0));
        p.mend(1);
        p.run(1);
        Check.badState("a break that was refused is not the one that is mended", () -> p.mend(0));
        p.run(1);
        // Broken at 2, so from the first one on.
        Check.due("mended", p.mend(0), 4);
    }

    private static void breaksAheadOfNext() {
        Check.says("The thread of a head breaks ahead of the next command.");
        Stitchpath p = row(10);
        p.start(2, 5);
        p.run(3);
        p.breaks(0);
        p.run(1);
        Check.due("the next command is not sewn", p.sewn(0), 3);
        Check.due("the other head's is", p.sewn(1), 4);
    }

    private static void seenAfterSoMany() {
        Check.says("that is seen as many commands later as told with the machine");
        for (int late = 0; late <= 20; late++) {
            for (int ahead = 0; ahead <= 10; ahead++) {
                Stitchpath p = row(31);
                p.start(1, late);
                Check.due("ahead", ahead == 0 ? 0 : p.run(ahead), ahead);
                p.breaks(0);
                for (int i = 0; i < late; i++) {
                    Check.badState("not seen after " + i + " of " + late, () -> p.mend(0));
                    Check.due("it goes on", p.run(1), 1);
                }
                Check.due("it stands", p.run(1000), 0);
                Check.due("mended", p.mend(0), late + Math.min(3, ahead));
                Check.due("it goes on to END", p.run(1000), 32 - late - ahead);
            }
        }
    }

    private static void seenAtOnce() {
        Check.says("that is seen as many commands later as told with the machine");
        Stitchpath p = row(10);
        p.start(1, 0);
        p.run(7);
        p.breaks(0);
        Check.due("it stands", p.run(1), 0);
        Check.due("7 ahead", p.sewn(0), 7);
        Check.due("three again", p.mend(0), 3);
        p.breaks(0);
        Check.due("three again, for it is where it was", p.mend(0), 3);
        Check.due("sewn", p.sewn(0), 13);
        Check.due("the others", p.run(1000), 4);
    }

    private static void seenOnceEndWasRun() {
        Check.says("or once END was run, at once behind that");
        for (int ahead = 1; ahead <= 6; ahead++) {
            Stitchpath p = row(6);
            p.start(1, 20);
            p.run(ahead);
            p.breaks(0);
            if (ahead < 6) {
                p.run(6 - ahead);
            }
            Check.badState("END was not run", () -> p.mend(0));
            Check.due("END", p.run(5), 1);
            Check.due("seen behind END", p.mend(0), 6 - Math.max(0, ahead - 3));
        }
        Stitchpath q = row(6);
        q.start(1, 3);
        q.run(4);
        q.breaks(0);
        Check.due("seen at END, and 3 commands later", q.run(1000), 3);
        Check.due("once", q.mend(0), 5);
        Check.badState("not twice", () -> q.mend(0));
    }

    private static void seenBehindEnd() {
        Check.says("or once END was run, at once behind that");
        for (int late = 0; late <= 20; late += 5) {
            Stitchpath p = row(6);
            p.start(2, late);
            p.run(1000);
            p.breaks(1);
            Check.due("no command is left", p.run(1), 0);
            // From 4 on, END with them.
            Check.due("seen at once", p.mend(1), 2);
            Check.due("sewn", p.sewn(1), 8);
            Check.due("the other head", p.sewn(0), 6);
        }
    }

    private static void standsUntilEachIsMended() {
        Check.says("then the machine stands until each head that is seen so was mended.");
        Stitchpath p = row(31);
        p.start(4, 4);
        p.run(5);
        p.breaks(0);
        p.breaks(2);
        p.breaks(3);
        Check.due("all are seen together", p.run(1000), 4);
        Check.due("mend 3", p.mend(3), 7);
        Check.due("two are left", p.run(1), 0);
        Check.due("mend 0", p.mend(0), 7);
        Check.due("one is left", p.run(1), 0);
        Check.badState("the whole one was not broken", () -> p.mend(1));
        Check.due("mend 2", p.mend(2), 7);
        Check.due("none is left", p.run(1), 1);
    }

    private static void notSeenDoesNotStand() {
        Check.says("then the machine stands until each head that is seen so was mended.");
        Stitchpath p = row(31);
        p.start(2, 6);
        p.run(4);
        p.breaks(0);
        p.run(2);
        p.breaks(1);
        Check.due("until 0 is seen", p.run(1000), 4);
        p.mend(0);
        Check.due("1 is broken, and not seen", p.run(1), 1);
        Check.due("until 1 is seen", p.run(1000), 1);
        p.breaks(0);
        Check.due("it stands for 1", p.run(1), 0);
        Check.due("mend 1", p.mend(1), 9);
        Check.due("until 0 is seen again", p.run(1000), 6);
    }

    private static void mendNotSeen() {
        Check.says("Throws `IllegalStateException` if its break was not seen");
        Stitchpath p = row(10);
        p.start(2, 1);
        Check.badState("whole at first", () -> p.mend(0));
        p.breaks(0);
        Check.badState("broken, and not seen", () -> p.mend(0));
        p.run(1);
        Check.badState("the other head is whole", () -> p.mend(1));
        Check.due("seen", p.mend(0), 1);
        Check.badState("mended", () -> p.mend(0));
        p.run(1000);
        Check.badState("whole behind END", () -> p.mend(0));
    }

    private static void mendFromThreeAhead() {
        Check.says("To mend a head sews all STITCHes again from 3 commands ahead of where it broke, or the first one,"
                + " to where the machine is.");
        Stitchpath p = row(31);
        p.start(1, 7);
        p.run(10);
        p.breaks(0);
        p.run(7);
        Check.due("from 7 to 17", p.mend(0), 10);
        Check.due("sewn", p.sewn(0), 20);
    }

    private static void mendFromTheFirst() {
        Check.says("To mend a head sews all STITCHes again from 3 commands ahead of where it broke, or the first one,"
                + " to where the machine is.");
        for (int ahead = 0; ahead <= 5; ahead++) {
            Stitchpath p = row(31);
            p.start(1, 2);
            if (ahead > 0) {
                p.run(ahead);
            }
            p.breaks(0);
            p.run(1000);
            Check.due("broken ahead of " + ahead, p.mend(0), 2 + Math.min(ahead, 3));
            Check.due("sewn", p.sewn(0), ahead + 2 + Math.min(ahead, 3));
        }
    }

    private static void mendWhereItIs() {
        Check.says("To mend a head sews all STITCHes again from 3 commands ahead of where it broke, or the first one,"
                + " to where the machine is.");
        Stitchpath p = row(31);
        p.start(2, 5);
        p.run(10);
        p.breaks(0);
        p.run(3);
        p.breaks(1);
        p.run(2);
        // The machine stands for 0; behind it 1 is seen at 18, and no later.
        Check.due("from 7 to 15", p.mend(0), 8);
        Check.due("to 18", p.run(1000), 3);
        Check.due("from 10 to 18", p.mend(1), 8);
        Check.due("sewn by 0", p.sewn(0), 10 + 8 + 3);
        Check.due("sewn by 1", p.sewn(1), 13 + 8);
    }

    private static void mendStitchesAlone() {
        Check.says("To mend a head sews all STITCHes again");
        Stitchpath p = new Stitchpath();
        Check.make(p, 1, 0, true, 1, 1, 1, 1, 2, 1, 2, 1);
        Check.make(p, 2, 0, true, 20, 20, 20, 20, 21, 20, 21, 20);
        Check.dueText("commands", Check.commandsOf(p), "J1,1 S1,0 S-1,0 S1,0 P T J18,19 S1,0 S-1,0 S1,0 E");
        // How many STITCHes are among the three commands ahead of each one.
        int[] due = {0, 0, 1, 2, 3, 2, 1, 0, 1, 2, 3, 2};
        for (int ahead = 0; ahead <= 11; ahead++) {
            p.start(1, 0);
            if (ahead > 0) {
                p.run(ahead);
            }
            p.breaks(0);
            Check.due("broken ahead of " + ahead, p.mend(0), due[ahead]);
        }
    }

    private static void sewnWhileWhole() {
        Check.says("A head has sewn the STITCHes that the machine ran while its thread was whole,"
                + " and those that were mended, counted again each time.");
        Stitchpath p = new Stitchpath();
        Check.make(p, 1, 0, true, 1, 1, 1, 1, 2, 1, 2, 1);
        Check.make(p, 2, 0, true, 20, 20, 20, 20, 21, 20, 21, 20);
        p.start(1, 20);
        int[] due = {0, 1, 2, 3, 3, 3, 3, 4, 5, 6, 6};
        for (int i = 0; i < due.length; i++) {
            Check.due("run", p.run(1), 1);
            Check.due("sewn after " + (i + 1), p.sewn(0), due[i]);
        }
        p.start(1, 20);
        p.run(2);
        p.breaks(0);
        p.run(1000);
        Check.due("none while broken", p.sewn(0), 1);
        Check.due("mended", p.mend(0), 6);
        Check.due("sewn", p.sewn(0), 7);
    }

    private static void countedAgainEachTime() {
        Check.says("and those that were mended, counted again each time.");
        Stitchpath p = row(10);
        p.start(1, 0);
        p.run(5);
        for (int i = 1; i <= 4; i++) {
            p.breaks(0);
            Check.due("sewn while broken", p.sewn(0), 5 + 3 * (i - 1));
            Check.due("again", p.mend(0), 3);
            Check.due("sewn", p.sewn(0), 5 + 3 * i);
        }
    }

    // ---- the object

    private static void usedFor512Calls() {
        Check.says("An object is used for at most 512 calls after it has been made");
        Stitchpath p = row(31);
        p.start(1, 0);
        p.run(1000);
        // A field, its four corners, a sew, a start and a run are 8 calls.
        int times = (512 - 8 - 2) / 2;
        for (int i = 0; i < times; i++) {
            p.breaks(0);
            Check.due("mend, call " + (8 + 2 * i + 2), p.mend(0), 2);
        }
        Check.due("call 511", p.sewn(0), 31 + 2 * times);
        Check.due("call 512", p.commands(), 32);
    }
}
