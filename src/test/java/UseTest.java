/** The calls of README.md, "Use", with the answers that it tells. */
public final class UseTest {
    public static void main(String[] args) {
        Check.says("README.md");
        Stitchpath path = new Stitchpath();
        int leaf = path.field(2, 0, false);
        Check.due("leaf", leaf, 0);
        path.corner(leaf, 5, 5);
        path.corner(leaf, 17, 5);
        path.corner(leaf, 17, 11);
        path.sew(leaf, 2, 6, 2, 1, true);
        int stem = path.field(4, 1, true);
        Check.due("stem", stem, 1);
        path.corner(stem, 2, 12);
        path.corner(stem, 2, 24);
        path.corner(stem, 6, 24);
        path.corner(stem, 6, 12);
        commands(path, leaf);
        file(path);
        machine(path);
        Check.end();
    }

    private static void commands(Stitchpath path, int leaf) {
        Check.due("commands", path.commands(), 35);
        Check.due("ofCommand 0 0", path.ofCommand(0, 0), Stitchpath.JUMP);
        Check.due("ofCommand 0 1", path.ofCommand(0, 1), 5);
        Check.due("count", path.count(Stitchpath.STITCH), 30);
        Check.due("thread", path.thread(2), 688);
        Check.dueFloat("covered", path.covered(leaf), 1.0f);
    }

    private static void file(Stitchpath path) {
        Check.due("write", path.write(Stitchpath.SHORT), 73);
        Check.noSuch("byteAt 73", () -> path.byteAt(73));
        Check.due("fault", path.fault(), Stitchpath.NONE);
        Check.due("damage", path.damage(6, 255), 16);
        Check.due("fault behind it", path.fault(), 6);
        Check.due("reads", path.reads(), 2);
    }

    private static void machine(Stitchpath path) {
        path.start(3, 4);
        Check.due("run", path.run(10), 10);
        path.breaks(1);
        Check.due("run to where it stands", path.run(100), 4);
        Check.due("mend", path.mend(1), 7);
        Check.due("run to the end", path.run(100), 21);
        Check.due("sewn", path.sewn(1), 33);
    }
}
