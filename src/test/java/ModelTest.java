/** Long runs of calls on a new object, each answer compared with the Model's. */
public final class ModelTest {
    private static final int RUNS = 700;
    private static final int CALLS = 512;

    private long seed;
    private Stitchpath path;
    private Model model;
    private int taste;

    public static void main(String[] args) {
        ModelTest test = new ModelTest();
        for (int run = 0; run < RUNS; run++) {
            if (!test.goesWell(run)) {
                break;
            }
        }
        Check.end();
    }

    /** Numbers that are the same in each run of the tests. */
    private int number(int below) {
        seed = seed * 6364136223846793005L + 1442695040888963407L;
        return (int) ((seed >>> 33) % below);
    }

    private boolean goesWell(int run) {
        seed = run * 7919L + 17;
        number(2);
        path = new Stitchpath();
        model = new Model();
        taste = run % 4;
        StringBuilder told = new StringBuilder();
        for (int i = 0; i < CALLS; i++) {
            int[] call = nextCall();
            told.append(text(call)).append('\n');
            Object due = answer(call, false);
            Object got = answer(call, true);
            if (!due.equals(got)) {
                Check.tell("run " + run + ", call " + i + ": " + text(call) + " answered " + got + ", due is " + due
                        + ", behind\n" + told);
                return false;
            }
        }
        return true;
    }

    private static String text(int[] call) {
        return java.util.Arrays.toString(call);
    }

    /** A number from least to most, and now and then one beyond, or far beyond. */
    private int near(int least, int most) {
        int choice = number(60);
        if (choice == 0) {
            return least - 1;
        }
        if (choice == 1) {
            return most + 1;
        }
        if (choice == 2) {
            int[] far = {Integer.MIN_VALUE, Integer.MAX_VALUE, -1, 1 << 16};
            return far[number(far.length)];
        }
        return least + number(most - least + 1);
    }

    private int fieldNumber() {
        return number(40) == 0 ? near(0, 7) : number(4);
    }

    /** Places in a small room at some tastes, so that edges and points meet. */
    private int place() {
        int room = taste == 0 ? 31 : taste == 1 ? 6 : taste == 2 ? 15 : 31;
        return taste == 3 && number(2) == 0 ? number(2) * 31 : near(0, room);
    }

    private int[] nextCall() {
        int choice = number(100);
        if (choice < 3) {
            return new int[] {0, near(0, taste == 1 ? 1 : 5), near(0, 3), number(4) == 0 ? 1 : 0};
        }
        if (choice < 14) {
            return new int[] {1, fieldNumber(), place(), place()};
        }
        if (choice < 19) {
            return new int[] {2, fieldNumber(), near(1, 8), near(1, 12), near(0, 11), near(0, 3), number(2)};
        }
        if (choice < 22) {
            return new int[] {3, fieldNumber(), number(3) == 0 ? near(1, 400) : near(60, 150)};
        }
        if (choice < 24) {
            return new int[] {4, near(0, number(2) == 0 ? 100 : 10)};
        }
        if (choice < 60) {
            return commandCall();
        }
        return choice < 78 ? fileCall() : machineCall();
    }

    private int[] commandCall() {
        switch (number(9)) {
            case 0:
                return new int[] {5};
            case 1:
                return new int[] {7, near(0, 4)};
            case 2:
                return new int[] {8};
            case 3:
                return new int[] {9, near(0, 5)};
            case 4:
                return new int[] {10, fieldNumber()};
            case 5:
                return new int[] {11, fieldNumber()};
            default:
                return new int[] {6, near(0, number(2) == 0 ? 20 : 300), near(0, 3)};
        }
    }

    private int[] fileCall() {
        switch (number(12)) {
            case 0:
            case 1:
                return new int[] {12, near(0, 1)};
            case 2:
            case 3:
                return new int[] {13, near(0, number(2) == 0 ? 20 : 600)};
            case 4:
            case 5:
            case 6:
                return new int[] {14, near(0, number(2) == 0 ? 20 : 600), damageValue()};
            case 7:
                return new int[] {15, near(0, number(2) == 0 ? 20 : 600)};
            case 8:
            case 9:
                return new int[] {16};
            default:
                return new int[] {17};
        }
    }

    private int damageValue() {
        int[] often = {0, 1, 2, 3, 4, 5, 16, 128, 129, 144, 112, 80, 28, 29, 3, 4, 6, 7, 249, 250};
        return number(2) == 0 ? often[number(often.length)] : near(0, 255);
    }

    private int[] machineCall() {
        switch (number(8)) {
            case 0:
                return new int[] {18, near(1, 4), number(2) == 0 ? near(0, 20) : number(4)};
            case 1:
            case 2:
                return new int[] {19, number(8) == 0 ? near(1, 1000) : near(1, 12)};
            case 3:
                return new int[] {20, near(0, 3)};
            case 4:
            case 5:
                return new int[] {21, near(0, 3)};
            default:
                return new int[] {22, near(0, 3)};
        }
    }

    private Object answer(int[] c, boolean ofPath) {
        try {
            return ofPath ? ofPath(c) : ofModel(c);
        } catch (RuntimeException e) {
            return e.getClass();
        }
    }

    private Object ofPath(int[] c) {
        switch (c[0]) {
            case 0: return path.field(c[1], c[2], c[3] == 1);
            case 1: return path.corner(c[1], c[2], c[3]);
            case 2: path.sew(c[1], c[2], c[3], c[4], c[5], c[6] == 1); return "";
            case 3: path.scale(c[1], c[2]); return "";
            case 4: return path.bound(c[1]);
            case 5: return path.commands();
            case 6: return path.ofCommand(c[1], c[2]);
            case 7: return path.count(c[1]);
            case 8: return path.time();
            case 9: return path.thread(c[1]);
            case 10: return path.covered(c[1]);
            case 11: return path.touched(c[1]);
            case 12: return path.write(c[1]);
            case 13: return path.byteAt(c[1]);
            case 14: return path.damage(c[1], c[2]);
            case 15: return path.shorten(c[1]);
            case 16: return path.fault();
            case 17: return path.reads();
            case 18: path.start(c[1], c[2]); return "";
            case 19: return path.run(c[1]);
            case 20: path.breaks(c[1]); return "";
            case 21: return path.mend(c[1]);
            default: return path.sewn(c[1]);
        }
    }

    private Object ofModel(int[] c) {
        switch (c[0]) {
            case 0: return model.field(c[1], c[2], c[3] == 1);
            case 1: return model.corner(c[1], c[2], c[3]);
            case 2: model.sew(c[1], c[2], c[3], c[4], c[5], c[6] == 1); return "";
            case 3: model.scale(c[1], c[2]); return "";
            case 4: return model.bound(c[1]);
            case 5: return model.commands();
            case 6: return model.ofCommand(c[1], c[2]);
            case 7: return model.count(c[1]);
            case 8: return model.time();
            case 9: return model.thread(c[1]);
            case 10: return model.covered(c[1]);
            case 11: return model.touched(c[1]);
            case 12: return model.write(c[1]);
            case 13: return model.byteAt(c[1]);
            case 14: return model.damage(c[1], c[2]);
            case 15: return model.shorten(c[1]);
            case 16: return model.fault();
            case 17: return model.reads();
            case 18: model.start(c[1], c[2]); return "";
            case 19: return model.run(c[1]);
            case 20: model.breaks(c[1]); return "";
            case 21: return model.mend(c[1]);
            default: return model.sewn(c[1]);
        }
    }
}
