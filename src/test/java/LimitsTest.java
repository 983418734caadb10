import com.sun.management.ThreadMXBean;
import java.lang.management.ManagementFactory;
import java.util.function.IntFunction;

/** The largest designs, whose rows must have room for all, and numbers of any size. */
public final class LimitsTest {
    private static final int[] FAR = {Integer.MIN_VALUE, Integer.MIN_VALUE + 1, -1000, -1, 0, 1, 31, 255,
        256, 1000, 1 << 16, 1 << 30, Integer.MAX_VALUE - 1, Integer.MAX_VALUE};

    public static void main(String[] args) {
        widestFields();
        toothedFields();
        farNumbers();
        madeOnceAndUsedAgain();
        Check.end();
    }

    private static void compare(Stitchpath path, Model model) {
        Check.due("commands", path.commands(), model.commands());
        for (int kind = 0; kind < 5; kind++) {
            Check.due("count " + kind, path.count(kind), model.count(kind));
        }
        Check.dueFloat("time", path.time(), model.time());
        for (int format = 0; format < 2; format++) {
            int length = model.write(format);
            Check.due("length of " + format, path.write(format), length);
            for (int i = 0; i < length; i++) {
                if (path.byteAt(i) != model.byteAt(i)) {
                    Check.due("byte " + i, path.byteAt(i), model.byteAt(i));
                    return;
                }
            }
            Check.due("fault", path.fault(), -1);
            Check.due("reads", path.reads(), model.reads());
        }
        path.start(4, 20);
        model.start(4, 20);
        int due = model.commands();
        for (int ran = 0; ran < due; ran += 1000) {
            Check.due("run", path.run(1000), model.run(1000));
        }
        Check.due("sewn", path.sewn(3), model.sewn(3));
    }

    private static void fill(Stitchpath path, Model model, int[] xs, int[] ys) {
        for (int f = 0; f < 8; f++) {
            path.field(f % 6, f % 4, false);
            model.field(f % 6, f % 4, false);
            for (int i = 0; i < xs.length; i++) {
                path.corner(f, xs[i], ys[i]);
                model.corner(f, xs[i], ys[i]);
            }
            path.sew(f, 1, 1, f, 3, true);
            model.sew(f, 1, 1, f, 3, true);
        }
        path.bound(0);
        model.bound(0);
    }

    private static void widestFields() {
        Stitchpath path = new Stitchpath();
        Model model = new Model();
        fill(path, model, new int[] {0, 31, 31, 0, 31, 0, 31, 0}, new int[] {0, 0, 31, 31, 30, 30, 0, 31});
        compare(path, model);
        Check.due("touched", path.touched(7), model.touched(7));
        Check.dueFloat("covered", path.covered(7), model.covered(7));
    }

    private static void toothedFields() {
        Stitchpath path = new Stitchpath();
        Model model = new Model();
        fill(path, model, new int[] {0, 4, 9, 13, 18, 22, 27, 31}, new int[] {0, 31, 0, 31, 0, 31, 0, 31});
        compare(path, model);
        Stitchpath other = new Stitchpath();
        Model otherModel = new Model();
        fill(other, otherModel, new int[] {0, 31, 0, 31, 0, 31, 0, 31}, new int[] {0, 31, 0, 31, 0, 31, 0, 31});
        compare(other, otherModel);
        Check.due("touched", other.touched(3), otherModel.touched(3));
    }

    /** All calls of a run live in one room, so that an object makes its rows once. */
    private static void madeOnceAndUsedAgain() {
        Stitchpath path = new Stitchpath();
        fill(path, new Model(), new int[] {0, 31, 31, 0, 31, 0, 31, 0}, new int[] {0, 0, 31, 31, 30, 30, 0, 31});
        ThreadMXBean threads = (ThreadMXBean) ManagementFactory.getThreadMXBean();
        long before = allocated(threads);
        int sum = 0;
        for (int i = 0; i < 60; i++) {
            path.sew(i % 8, 1, 1, i % 12, i % 4, true);
            path.bound(i);
            sum += path.commands() + path.count(0) + path.write(i % 2) + path.fault() + path.reads();
            path.start(4, i % 20);
            sum += path.run(1000) + (int) path.covered(i % 8) + path.touched(i % 8);
        }
        long made = allocated(threads) - before;
        if (made > 100_000 || sum == 0) {
            Check.tell("480 calls made " + made + " bytes");
        }
    }

    /** 0 on a machine that does not count it. */
    private static long allocated(ThreadMXBean threads) {
        return threads.isThreadAllocatedMemorySupported() ? threads.getCurrentThreadAllocatedBytes() : 0;
    }

    private static void farNumbers() {
        Stitchpath p = new Stitchpath();
        Check.make(p, 0, 0, false, 0, 0, 8, 0, 8, 4, 0, 4);
        p.write(Stitchpath.LONG);
        p.start(2, 3);
        for (int far : FAR) {
            for (int other : FAR) {
                throwsAlone("corner " + far + " " + other, i -> p.corner(far, other, i));
                throwsAlone("ofCommand " + far + " " + other, i -> p.ofCommand(far, other));
                throwsAlone("damage " + far + " " + other, i -> p.damage(far, other));
                throwsAlone("scale " + far + " " + other, i -> {
                    p.scale(far, other);
                    return 0;
                });
                throwsAlone("sew " + far + " " + other, i -> {
                    p.sew(0, far, other, i, i, true);
                    p.sew(far, 1, 1, other, 0, true);
                    p.sew(0, 1, 1, far, other, true);
                    return 0;
                });
                throwsAlone("start " + far + " " + other, i -> {
                    p.start(far, other);
                    return 0;
                });
                throwsAlone("field " + far + " " + other, i -> p.field(far, other, true));
            }
            throwsAlone("bound " + far, i -> p.bound(far));
            throwsAlone("count " + far, i -> p.count(far));
            throwsAlone("thread " + far, i -> p.thread(far));
            throwsAlone("covered " + far, i -> (int) p.covered(far));
            throwsAlone("touched " + far, i -> p.touched(far));
            throwsAlone("byteAt " + far, i -> p.byteAt(far));
            throwsAlone("shorten " + far, i -> p.shorten(far));
            throwsAlone("write " + far, i -> p.write(far));
            throwsAlone("run " + far, i -> p.run(far));
            throwsAlone("mend " + far, i -> p.mend(far));
            throwsAlone("sewn " + far, i -> p.sewn(far));
            throwsAlone("breaks " + far, i -> {
                p.breaks(far);
                return 0;
            });
        }
    }

    /** What is thrown is of the document's three classes itself, not of one below it. */
    private static void throwsAlone(String what, IntFunction<Integer> call) {
        for (int number : FAR) {
            try {
                call.apply(number);
            } catch (RuntimeException e) {
                Class<?> thrown = e.getClass();
                if (thrown != IndexOutOfBoundsException.class && thrown != IllegalArgumentException.class
                        && thrown != IllegalStateException.class) {
                    Check.tell(what + " threw " + thrown);
                }
            }
        }
    }
}
