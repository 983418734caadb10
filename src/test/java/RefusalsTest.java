import java.util.ArrayList;
import java.util.List;

/**
 * A call that throws changes nothing, and of several exceptions it throws the one that is documented
 * first: each refused call is made on one of two like objects, which must answer alike afterwards.
 */
public final class RefusalsTest {
    private interface Call {
        void on(Stitchpath path);
    }

    private interface Answer {
        Object of(Stitchpath path);
    }

    private static final class Refusal {
        final String name;
        final Class<?> due;
        final Call call;

        Refusal(String name, Class<?> due, Call call) {
            this.name = name;
            this.due = due;
            this.call = call;
        }
    }

    private static final Class<?> THERE = IndexOutOfBoundsException.class;
    private static final Class<?> ARGUMENT = IllegalArgumentException.class;
    private static final Class<?> STATE = IllegalStateException.class;
    private static final int KINDS_OF_OBJECT = 6;

    private static final List<Refusal> refusals = new ArrayList<>();

    public static void main(String[] args) {
        for (int kind = 0; kind < KINDS_OF_OBJECT; kind++) {
            refusals.clear();
            refusedAlways();
            switch (kind) {
                case 0: refusedWithoutAnything(); break;
                case 1: refusedWithMachine(); refusedWithoutFile(); refusedWithHalf(); break;
                case 2: refusedWithEight(); refusedWithMachine(); refusedWithFile(); refusedWithBroken(); break;
                case 3: refusedWithEight(); refusedWithMachine(); refusedWithFile(); refusedWithSeen(); break;
                case 4: refusedWithEight(); refusedWithMachine(); refusedWithFile(); refusedWithWhole(); break;
                default: refusedWithEight(); refusedWithoutMachine(); refusedWithoutFile(); break;
            }
            for (Refusal refusal : refusals) {
                changesNothing(kind, refusal);
            }
            oneBehindTheOther(kind);
        }
        documentedFirst();
        Check.end();
    }

    // ---- the objects

    private static Stitchpath made(int kind) {
        Stitchpath p = new Stitchpath();
        if (kind == 0) {
            return p;
        }
        if (kind == 1) {
            Check.make(p, 1, 2, false, 3, 4, 9, 4);
            Check.make(p, 4, 1, true, 3, 4, 9, 4, 31, 31);
            p.sew(0, 3, 5, 2, 1, true);
            p.sew(1, 4, 5, 2, 1, true);
            p.start(1, 0);
            return p;
        }
        Check.make(p, 2, 1, false, 1, 1, 9, 1, 17, 3, 9, 9, 8, 8, 7, 9, 3, 9, 1, 8);
        Check.make(p, 3, 0, true, 0, 8, 4, 31, 20, 31, 16, 4);
        Check.make(p, 2, 0, false, 31, 0, 20, 31, 5, 17);
        for (int i = 3; i < 8; i++) {
            p.field(i % 6, i % 4, i == 5);
        }
        p.corner(5, 7, 7);
        p.sew(0, 3, 5, 4, 2, true);
        p.sew(1, 2, 1, 0, 0, true);
        p.sew(2, 4, 7, 3, 1, false);
        p.bound(11);
        if (kind == 5) {
            return p;
        }
        p.write(kind == 2 ? Stitchpath.SHORT : Stitchpath.LONG);
        p.damage(kind == 2 ? 30 : 45, 77);
        p.shorten(100);
        p.start(4, 3);
        p.run(12);
        p.breaks(2);
        p.run(2);
        p.breaks(0);
        if (kind == 3) {
            p.run(9);
        } else if (kind == 4) {
            p.run(9);
            p.mend(2);
            p.run(9);
            p.mend(0);
            p.run(1000);
        }
        return p;
    }

    // ---- the refused calls

    private static void refuse(String name, Class<?> due, Call call) {
        refusals.add(new Refusal(name, due, call));
    }

    private static void refusedAlways() {
        int[] far = {Integer.MIN_VALUE, -1, 1001, 1 << 20, Integer.MAX_VALUE};
        for (int n : far) {
            refuse("field " + n + " 0", ARGUMENT, p -> p.field(n, 0, false));
            refuse("field 0 " + n, ARGUMENT, p -> p.field(0, n, true));
            refuse("corner " + n, THERE, p -> p.corner(n, 1, 1));
            refuse("corner " + n + ", wrong x", THERE, p -> p.corner(n, 32, 1));
            refuse("corner " + n + ", wrong y", THERE, p -> p.corner(n, 1, -1));
            refuse("sew " + n, THERE, p -> p.sew(n, 2, 6, 0, 0, true));
            refuse("sew " + n + ", wrong density", THERE, p -> p.sew(n, 0, 6, 0, 0, true));
            refuse("sew " + n + ", wrong length", THERE, p -> p.sew(n, 2, 13, 0, 0, true));
            refuse("sew " + n + ", wrong shift", THERE, p -> p.sew(n, 2, 6, 12, 0, true));
            refuse("sew " + n + ", wrong pull", THERE, p -> p.sew(n, 2, 6, 0, 4, true));
            refuse("scale " + n, THERE, p -> p.scale(n, 50));
            refuse("scale " + n + ", wrong hundredths", THERE, p -> p.scale(n, 401));
            refuse("bound " + n, ARGUMENT, p -> p.bound(n));
            refuse("ofCommand " + n, THERE, p -> p.ofCommand(n, 0));
            refuse("ofCommand " + n + ", wrong what", THERE, p -> p.ofCommand(n, 4));
            refuse("ofCommand 0 " + n, ARGUMENT, p -> p.ofCommand(0, n));
            refuse("count " + n, ARGUMENT, p -> p.count(n));
            refuse("thread " + n, ARGUMENT, p -> p.thread(n));
            refuse("covered " + n, THERE, p -> p.covered(n));
            refuse("touched " + n, THERE, p -> p.touched(n));
            refuse("write " + n, ARGUMENT, p -> p.write(n));
            refuse("byteAt " + n, THERE, p -> p.byteAt(n));
            refuse("damage " + n, THERE, p -> p.damage(n, 1));
            refuse("damage " + n + ", wrong value", THERE, p -> p.damage(n, 256));
            refuse("shorten " + n, ARGUMENT, p -> p.shorten(n));
            refuse("start " + n + " 0", ARGUMENT, p -> p.start(n, 0));
            refuse("start 1 " + n, ARGUMENT, p -> p.start(1, n));
            refuse("run " + n, ARGUMENT, p -> p.run(n));
            refuse("breaks " + n, THERE, p -> p.breaks(n));
            refuse("mend " + n, THERE, p -> p.mend(n));
            refuse("sewn " + n, THERE, p -> p.sewn(n));
        }
        refuse("field 6 0", ARGUMENT, p -> p.field(6, 0, false));
        refuse("field 0 4", ARGUMENT, p -> p.field(0, 4, false));
        refuse("bound 101", ARGUMENT, p -> p.bound(101));
        refuse("ofCommand 0 4", ARGUMENT, p -> p.ofCommand(0, 4));
        refuse("count 5", ARGUMENT, p -> p.count(5));
        refuse("thread 6", ARGUMENT, p -> p.thread(6));
        refuse("write 2", ARGUMENT, p -> p.write(2));
        refuse("start 0 0", ARGUMENT, p -> p.start(0, 0));
        refuse("start 5 0", ARGUMENT, p -> p.start(5, 0));
        refuse("start 1 21", ARGUMENT, p -> p.start(1, 21));
        refuse("start 0 -1", ARGUMENT, p -> p.start(0, -1));
        refuse("run 0", ARGUMENT, p -> p.run(0));
    }

    private static void refusedWithoutAnything() {
        refuse("corner of no field", THERE, p -> p.corner(0, 1, 1));
        refuse("corner of no field, wrong x", THERE, p -> p.corner(0, 32, 1));
        refuse("sew of no field", THERE, p -> p.sew(0, 2, 6, 0, 0, true));
        refuse("sew of no field, wrong density", THERE, p -> p.sew(0, 9, 6, 0, 0, true));
        refuse("scale of no field", THERE, p -> p.scale(0, 100));
        refuse("scale of no field, wrong hundredths", THERE, p -> p.scale(0, 0));
        refuse("covered of no field", THERE, p -> p.covered(0));
        refuse("touched of no field", THERE, p -> p.touched(0));
        refuse("no command 1", THERE, p -> p.ofCommand(1, 0));
        refuse("no command 1, wrong what", THERE, p -> p.ofCommand(1, -1));
        refusedWithoutFile();
        refusedWithoutMachine();
    }

    private static void refusedWithoutFile() {
        refuse("byteAt without a file", THERE, p -> p.byteAt(0));
        refuse("damage without a file", THERE, p -> p.damage(0, 0));
        refuse("damage without a file, wrong value", THERE, p -> p.damage(0, -1));
        refuse("shorten without a file", ARGUMENT, p -> p.shorten(1));
    }

    private static void refusedWithoutMachine() {
        refuse("run without a machine", STATE, p -> p.run(1));
        refuse("run 0 without a machine", ARGUMENT, p -> p.run(0));
        refuse("run 1001 without a machine", ARGUMENT, p -> p.run(1001));
        refuse("breaks without a machine", THERE, p -> p.breaks(0));
        refuse("mend without a machine", THERE, p -> p.mend(0));
        refuse("sewn without a machine", THERE, p -> p.sewn(0));
    }

    private static void refusedWithMachine() {
        refuse("breaks 4", THERE, p -> p.breaks(4));
        refuse("mend 4", THERE, p -> p.mend(4));
        refuse("sewn 4", THERE, p -> p.sewn(4));
        refuse("mend a whole head", STATE, p -> p.mend(wholeHead(p)));
    }

    /** The head 1 is whole in all objects that have several; the only one otherwise. */
    private static int wholeHead(Stitchpath p) {
        try {
            p.sewn(1);
            return 1;
        } catch (IndexOutOfBoundsException e) {
            return 0;
        }
    }

    private static void refusedWithHalf() {
        refuse("corner x 32", ARGUMENT, p -> p.corner(0, 32, 1));
        refuse("corner y 32", ARGUMENT, p -> p.corner(1, 1, 32));
        refuse("corner of 2", THERE, p -> p.corner(2, 1, 1));
        refuse("sew of 2", THERE, p -> p.sew(2, 9, 6, 0, 0, false));
        refuse("scale a corner 31", STATE, p -> p.scale(1, 104));
        refuse("scale an x 9", STATE, p -> p.scale(0, 356));
        refuse("scale a corner 31 wrongly", ARGUMENT, p -> p.scale(1, 401));
        refuse("scale by 0", ARGUMENT, p -> p.scale(1, 0));
        refuse("breaks 1 of 1", THERE, p -> p.breaks(1));
        refuse("sewn 1 of 1", THERE, p -> p.sewn(1));
    }

    private static void refusedWithEight() {
        refuse("a ninth field", STATE, p -> p.field(0, 0, false));
        refuse("a ninth field, wrong colour", ARGUMENT, p -> p.field(6, 0, false));
        refuse("a ninth field, wrong layer", ARGUMENT, p -> p.field(0, 4, false));
        refuse("a ninth corner", STATE, p -> p.corner(0, 1, 1));
        refuse("a ninth corner, wrong x", ARGUMENT, p -> p.corner(0, 32, 1));
        refuse("a ninth corner, wrong y", ARGUMENT, p -> p.corner(0, 1, -1));
        refuse("a column's fifth corner", STATE, p -> p.corner(1, 1, 1));
        refuse("a column's fifth corner, wrong x", ARGUMENT, p -> p.corner(1, -1, 1));
        refuse("a column's fifth corner, wrong y", ARGUMENT, p -> p.corner(1, 1, 32));
        refuse("corner of 8", THERE, p -> p.corner(8, 1, 1));
        refuse("corner x 32", ARGUMENT, p -> p.corner(2, 32, 1));
        refuse("corner y 32", ARGUMENT, p -> p.corner(2, 1, 32));
        int[][] wrong = {{0, 1, 0, 0}, {9, 1, 0, 0}, {1, 0, 0, 0}, {1, 13, 0, 0},
            {1, 1, -1, 0}, {1, 1, 12, 0}, {1, 1, 0, -1}, {1, 1, 0, 4}};
        for (int[] w : wrong) {
            for (int field = 0; field < 3; field++) {
                int number = field;
                refuse("sew " + number + " with " + java.util.Arrays.toString(w), ARGUMENT,
                        p -> p.sew(number, w[0], w[1], w[2], w[3], number != 0));
            }
        }
        refuse("sew of 8", THERE, p -> p.sew(8, 2, 6, 0, 0, true));
        refuse("scale a corner 31", STATE, p -> p.scale(2, 104));
        refuse("scale the last corners alone too far", STATE, p -> p.scale(1, 150));
        refuse("scale one corner too far", STATE, p -> p.scale(0, 200));
        refuse("scale by 401", ARGUMENT, p -> p.scale(0, 401));
        refuse("scale by 0", ARGUMENT, p -> p.scale(2, 0));
        refuse("scale 8", THERE, p -> p.scale(8, 100));
        refuse("covered 8", THERE, p -> p.covered(8));
        refuse("touched 8", THERE, p -> p.touched(8));
        refuse("no such command", THERE, p -> p.ofCommand(p.commands(), 0));
        refuse("no such command, wrong what", THERE, p -> p.ofCommand(p.commands(), 4));
        refuse("the last command, wrong what", ARGUMENT, p -> p.ofCommand(p.commands() - 1, -1));
    }

    private static void refusedWithFile() {
        refuse("byteAt 100", THERE, p -> p.byteAt(100));
        refuse("damage 100", THERE, p -> p.damage(100, 1));
        refuse("damage 100, wrong value", THERE, p -> p.damage(100, 256));
        refuse("damage 99, wrong value", ARGUMENT, p -> p.damage(99, 256));
        refuse("damage 0, wrong value", ARGUMENT, p -> p.damage(0, -1));
        refuse("shorten 101", ARGUMENT, p -> p.shorten(101));
    }

    private static void refusedWithBroken() {
        refuse("break a broken head", STATE, p -> p.breaks(0));
        refuse("break another broken head", STATE, p -> p.breaks(2));
        refuse("mend a break that is not seen", STATE, p -> p.mend(0));
        refuse("mend another one", STATE, p -> p.mend(2));
    }

    private static void refusedWithSeen() {
        refuse("break a head that is seen", STATE, p -> p.breaks(2));
        refuse("mend a break that is not seen", STATE, p -> p.mend(0));
    }

    private static void refusedWithWhole() {
        refuse("mend a mended head", STATE, p -> p.mend(0));
        refuse("mend another one", STATE, p -> p.mend(2));
    }

    private static void documentedFirst() {
        Check.says("If several exceptions apply, the one that is documented first is thrown.");
        Stitchpath p = made(5);
        Check.badArgument("there are 8, and a wrong colour", () -> p.field(-1, 0, false));
        Check.badArgument("there are 8, and a wrong layer", () -> p.field(0, 4, false));
        Check.noSuch("no field, and a wrong x", () -> p.corner(8, 32, 0));
        Check.noSuch("no field, and a wrong y", () -> p.corner(-1, 0, -1));
        Check.badArgument("it has 8, and a wrong x", () -> p.corner(0, 32, 0));
        Check.badArgument("it has 8, and a wrong y", () -> p.corner(0, 0, 32));
        Check.badArgument("a column has 4, and a wrong x", () -> p.corner(1, -1, 0));
        Check.badArgument("a column has 4, and a wrong y", () -> p.corner(1, 0, -1));
        Check.noSuch("no field, and a wrong density", () -> p.sew(8, 0, 1, 0, 0, false));
        Check.noSuch("no field, and a wrong length", () -> p.sew(-1, 1, 13, 0, 0, false));
        Check.noSuch("no field, and a wrong shift", () -> p.sew(8, 1, 1, 12, 0, false));
        Check.noSuch("no field, and a wrong pull", () -> p.sew(-1, 1, 1, 0, 4, false));
        Check.noSuch("no field, and wrong hundredths", () -> p.scale(8, 0));
        Check.badArgument("wrong hundredths, and a corner beyond", () -> p.scale(2, 401));
        Check.badArgument("hundredths so wrong that a product comes round", () -> p.scale(2, Integer.MAX_VALUE));
        Check.noSuch("no command, and a wrong what", () -> p.ofCommand(-1, 4));
        Check.noSuch("no byte, and a wrong value", () -> p.damage(0, 256));
        Check.badArgument("no machine, and no command", () -> p.run(0));
        Check.badArgument("no machine, and too many commands", () -> p.run(1001));
        p.write(Stitchpath.SHORT);
        Check.noSuch("no such byte, and a wrong value", () -> p.damage(-1, -1));
        p.start(1, 0);
        p.breaks(0);
        Check.badArgument("it stands, and too many commands", () -> p.run(1001));
        Check.noSuch("a broken head, but not that one", () -> p.breaks(1));
    }

    // ---- what an object answers

    private static void changesNothing(int kind, Refusal refusal) {
        Stitchpath one = made(kind);
        Stitchpath other = made(kind);
        Check.says("A method that throws an exception changes nothing.");
        refuseNow(kind, refusal, one);
        Check.dueText("object " + kind + " behind " + refusal.name, told(one), told(other));
    }

    private static void refuseNow(int kind, Refusal refusal, Stitchpath path) {
        Class<?> got = null;
        try {
            refusal.call.on(path);
        } catch (RuntimeException e) {
            got = e.getClass();
        }
        if (got != refusal.due) {
            Check.tell("object " + kind + ", " + refusal.name + " threw " + got + ", due is " + refusal.due);
        }
    }

    private static void oneBehindTheOther(int kind) {
        Check.says("A method that throws an exception changes nothing.");
        Stitchpath one = made(kind);
        for (Refusal refusal : refusals) {
            refuseNow(kind, refusal, one);
        }
        Check.dueText("object " + kind + " behind all of them", told(one), told(made(kind)));
    }

    private static String told(Stitchpath p) {
        StringBuilder text = new StringBuilder();
        tell(text, p);
        for (int head = 0; head < 4; head++) {
            int number = head;
            add(text, "mend", p, x -> x.mend(number));
            add(text, "run", p, x -> x.run(1));
            add(text, "sewn", p, x -> x.sewn(number));
        }
        for (int i = 0; i < 3; i++) {
            add(text, "run", p, x -> x.run(1000));
            for (int head = 0; head < 4; head++) {
                int number = head;
                add(text, "mend", p, x -> x.mend(number));
                add(text, "sewn", p, x -> x.sewn(number));
            }
        }
        add(text, "shorten", p, x -> x.shorten(0));
        add(text, "bound", p, x -> x.bound(0));
        add(text, "field", p, x -> x.field(1, 1, false));
        for (int field = 0; field < 8; field++) {
            int number = field;
            for (int corner = 0; corner < 3; corner++) {
                int place = 3 + 4 * corner;
                add(text, "corner", p, x -> x.corner(number, place, place * place % 16));
            }
        }
        tell(text, p);
        return text.toString();
    }

    /** All that an object tells without a change. */
    private static void tell(StringBuilder text, Stitchpath p) {
        add(text, "commands", p, Check::commandsOf);
        add(text, "owners", p, Check::ownersOf);
        add(text, "time", p, Stitchpath::time);
        for (int i = 0; i < 8; i++) {
            int number = i;
            add(text, "count", p, x -> x.count(number));
            add(text, "thread", p, x -> x.thread(number));
            add(text, "covered", p, x -> x.covered(number));
            add(text, "touched", p, x -> x.touched(number));
            add(text, "sewn", p, x -> x.sewn(number));
        }
        for (int i = 0; i < 101; i++) {
            int number = i;
            add(text, "byteAt", p, x -> x.byteAt(number));
        }
        add(text, "fault", p, Stitchpath::fault);
        add(text, "reads", p, Stitchpath::reads);
    }

    private static void add(StringBuilder text, String name, Stitchpath p, Answer answer) {
        text.append(name).append(' ');
        try {
            text.append(answer.of(p));
        } catch (RuntimeException e) {
            text.append(e.getClass().getName());
        }
        text.append('\n');
    }
}
