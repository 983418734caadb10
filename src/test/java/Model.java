import java.util.ArrayList;
import java.util.Collections;
import java.util.HashSet;
import java.util.List;
import java.util.Set;

/**
 * The document written a second time, as plainly as it can be: nothing is kept that can be found
 * anew, fractions are doubles rounded down, and rows are lists.
 */
final class Model {
    private static final class Shape {
        int colour;
        int layer;
        boolean column;
        List<int[]> corners = new ArrayList<>();
        int density = 2;
        int length = 6;
        int shift;
        int pull;
        boolean underlay;
    }

    private static final class Head {
        boolean broken;
        int brokeAt;
        int sewn;
    }

    private final List<Shape> shapes = new ArrayList<>();
    private int bound = 8;
    private List<Integer> file;
    private int format;
    private List<int[]> program;
    private final List<Head> heads = new ArrayList<>();
    private int late;
    private int at;

    private static void argument(boolean good) {
        if (!good) {
            throw new IllegalArgumentException();
        }
    }

    private static void state(boolean good) {
        if (!good) {
            throw new IllegalStateException();
        }
    }

    private static void there(boolean good) {
        if (!good) {
            throw new IndexOutOfBoundsException();
        }
    }

    private Shape shape(int number) {
        there(number >= 0 && number < shapes.size());
        return shapes.get(number);
    }

    private static int down(int number, int divisor) {
        return (int) Math.floor((double) number / divisor);
    }

    private static int up(int number, int divisor) {
        return (int) Math.ceil((double) number / divisor);
    }

    private static int reach(int[] from, int[] to) {
        return Math.max(Math.abs(to[0] - from[0]), Math.abs(to[1] - from[1]));
    }

    private static int[] step(int[] from, int[] to, int j, int n) {
        return new int[] {from[0] + down((to[0] - from[0]) * j, n), from[1] + down((to[1] - from[1]) * j, n)};
    }

    // ---- fields

    int field(int colour, int layer, boolean column) {
        argument(colour >= 0 && colour <= 5 && layer >= 0 && layer <= 3);
        state(shapes.size() < 8);
        Shape made = new Shape();
        made.colour = colour;
        made.layer = layer;
        made.column = column;
        shapes.add(made);
        return shapes.size() - 1;
    }

    int corner(int field, int x, int y) {
        Shape s = shape(field);
        argument(x >= 0 && x <= 31 && y >= 0 && y <= 31);
        state(s.corners.size() < 8 && !(s.column && s.corners.size() == 4));
        s.corners.add(new int[] {x, y});
        return s.corners.size();
    }

    void sew(int field, int density, int length, int shift, int pull, boolean underlay) {
        Shape s = shape(field);
        argument(density >= 1 && density <= 8 && length >= 1 && length <= 12);
        argument(shift >= 0 && shift <= 11 && pull >= 0 && pull <= 3);
        s.density = density;
        s.length = length;
        s.shift = shift;
        s.pull = pull;
        s.underlay = underlay;
    }

    void scale(int field, int hundredths) {
        Shape s = shape(field);
        argument(hundredths >= 1 && hundredths <= 400);
        List<int[]> scaled = new ArrayList<>();
        for (int[] c : s.corners) {
            scaled.add(new int[] {down(c[0] * hundredths, 100), down(c[1] * hundredths, 100)});
        }
        for (int[] c : scaled) {
            state(c[0] <= 31 && c[1] <= 31);
        }
        s.corners = scaled;
    }

    int bound(int value) {
        argument(value >= 0 && value <= 100);
        int before = bound;
        bound = value;
        return before;
    }

    // ---- needle points

    private static List<int[]> spans(Shape s, int y) {
        List<Integer> crossings = new ArrayList<>();
        for (int i = 0; i < s.corners.size(); i++) {
            int[] a = s.corners.get(i);
            int[] b = s.corners.get((i + 1) % s.corners.size());
            boolean crossed = a[1] <= y && b[1] > y || b[1] <= y && a[1] > y;
            if (crossed) {
                crossings.add(a[0] + down((y - a[1]) * (b[0] - a[0]), b[1] - a[1]));
            }
        }
        Collections.sort(crossings);
        List<int[]> spans = new ArrayList<>();
        for (int i = 0; i + 1 < crossings.size(); i += 2) {
            spans.add(new int[] {crossings.get(i), crossings.get(i + 1)});
        }
        return spans;
    }

    private static List<int[]> points(Shape s) {
        List<int[]> points = new ArrayList<>();
        if (s.column) {
            if (s.corners.size() == 4) {
                int[] a = s.corners.get(0);
                int[] b = s.corners.get(1);
                int[] c = s.corners.get(2);
                int[] d = s.corners.get(3);
                int n = down(Math.max(reach(a, b), reach(d, c)), s.density) + 1;
                for (int j = 0; j <= n; j++) {
                    points.add(step(a, b, j, n));
                    points.add(step(d, c, j, n));
                }
            }
            return points;
        }
        if (s.corners.size() < 3) {
            return points;
        }
        if (s.underlay) {
            points.add(s.corners.get(0));
            for (int i = 0; i < s.corners.size(); i++) {
                int[] a = s.corners.get(i);
                int[] b = s.corners.get((i + 1) % s.corners.size());
                int n = up(reach(a, b), s.length);
                for (int j = 1; j <= n; j++) {
                    points.add(step(a, b, j, n));
                }
            }
        }
        int low = 99;
        int high = -99;
        for (int[] c : s.corners) {
            low = Math.min(low, c[1]);
            high = Math.max(high, c[1]);
        }
        for (int k = 0; low + k * s.density < high; k++) {
            List<int[]> row = new ArrayList<>();
            for (int[] span : spans(s, low + k * s.density)) {
                int a = span[0] - s.pull;
                int b = span[1] + s.pull;
                for (int x = a; x <= b; x++) {
                    if (x == a || x == b || (x - k * s.shift + 1200) % s.length == 1200 % s.length) {
                        row.add(new int[] {x, low + k * s.density});
                    }
                }
            }
            if (k % 2 != 0) {
                Collections.reverse(row);
            }
            points.addAll(row);
        }
        return points;
    }

    // ---- commands: kind, differences, field, colour

    private List<int[]> made() {
        List<int[]> made = new ArrayList<>();
        List<List<int[]>> points = new ArrayList<>();
        Set<Integer> left = new HashSet<>();
        for (int i = 0; i < shapes.size(); i++) {
            points.add(points(shapes.get(i)));
            if (!points.get(i).isEmpty()) {
                left.add(i);
            }
        }
        int[] needle = {0, 0};
        int now = -1;
        for (int layer = 0; layer < 4; layer++) {
            while (true) {
                List<Integer> choice = new ArrayList<>();
                List<Integer> sameColour = new ArrayList<>();
                for (int i = 0; i < shapes.size(); i++) {
                    if (left.contains(i) && shapes.get(i).layer == layer) {
                        choice.add(i);
                        if (shapes.get(i).colour == now) {
                            sameColour.add(i);
                        }
                    }
                }
                if (choice.isEmpty()) {
                    break;
                }
                if (!sameColour.isEmpty()) {
                    choice = sameColour;
                }
                int next = choice.get(0);
                for (int i : choice) {
                    if (square(needle, points.get(i).get(0)) < square(needle, points.get(next).get(0))) {
                        next = i;
                    }
                }
                left.remove(next);
                int colour = shapes.get(next).colour;
                if (now != -1 && now != colour) {
                    made.add(new int[] {3, 0, 0, -1, -1});
                }
                now = colour;
                if (square(needle, points.get(next).get(0)) > bound * bound) {
                    made.add(new int[] {2, 0, 0, -1, -1});
                }
                boolean first = true;
                for (int[] p : points.get(next)) {
                    int dx = p[0] - needle[0];
                    int dy = p[1] - needle[1];
                    if (dx != 0 || dy != 0) {
                        boolean near = dx >= -12 && dx <= 12 && dy >= -12 && dy <= 12;
                        made.add(new int[] {near && !first ? 0 : 1, dx, dy, next, colour});
                    }
                    first = false;
                    needle = p;
                }
            }
        }
        made.add(new int[] {4, 0, 0, -1, -1});
        return made;
    }

    private static int square(int[] a, int[] b) {
        return (a[0] - b[0]) * (a[0] - b[0]) + (a[1] - b[1]) * (a[1] - b[1]);
    }

    int commands() {
        return made().size();
    }

    int ofCommand(int command, int what) {
        List<int[]> made = made();
        there(command >= 0 && command < made.size());
        argument(what >= 0 && what <= 3);
        return made.get(command)[what];
    }

    int count(int kind) {
        argument(kind >= 0 && kind <= 4);
        int count = 0;
        for (int[] c : made()) {
            count += c[0] == kind ? 1 : 0;
        }
        return count;
    }

    float time() {
        float sum = 0;
        for (int[] c : made()) {
            boolean small = Math.abs(c[1]) < 5 && Math.abs(c[2]) < 5;
            float[] each = {small ? 0.075f : 0.1f, 0.2f, 6.0f, 8.0f, 0.0f};
            sum = sum + each[c[0]];
        }
        return sum;
    }

    int thread(int colour) {
        argument(colour >= 0 && colour <= 5);
        int sum = 0;
        for (int[] c : made()) {
            if (c[0] == 0 && c[4] == colour) {
                sum += (int) Math.sqrt(100.0 * (c[1] * c[1] + c[2] * c[2]));
            }
        }
        return sum;
    }

    // ---- the raster

    private Set<Integer> touchedCells(int field) {
        Set<Integer> cells = new HashSet<>();
        int[] needle = {0, 0};
        for (int[] c : made()) {
            int[] to = {needle[0] + c[1], needle[1] + c[2]};
            if (c[0] == 0 && c[3] == field) {
                int n = reach(needle, to);
                for (int j = 0; j <= n; j++) {
                    int[] cell = step(needle, to, j, n);
                    if (cell[0] >= 0 && cell[0] <= 31 && cell[1] >= 0 && cell[1] <= 31) {
                        cells.add(cell[0] * 100 + cell[1]);
                    }
                }
            }
            needle = to;
        }
        return cells;
    }

    float covered(int field) {
        Shape s = shape(field);
        if (s.column) {
            return 0.0f;
        }
        Set<Integer> touched = touchedCells(field);
        int all = 0;
        int covered = 0;
        for (int x = 0; x < 32; x++) {
            for (int y = 0; y < 32; y++) {
                boolean within = false;
                for (int[] span : spans(s, y)) {
                    within |= span[0] <= x && span[1] >= x;
                }
                boolean near = false;
                for (int other = 0; other < 32; other++) {
                    near |= Math.abs(other - y) < s.density && touched.contains(x * 100 + other);
                }
                all += within ? 1 : 0;
                covered += within && near ? 1 : 0;
            }
        }
        return all == 0 ? 0.0f : (float) covered / (float) all;
    }

    int touched(int field) {
        shape(field);
        return touchedCells(field).size();
    }

    // ---- files

    private static int limit(int format) {
        return format == 0 ? 12 : 121;
    }

    private void add(int kind, int dx, int dy) {
        if (format == 0) {
            file.add(32 * kind + dx + 16);
            file.add(dy + 16);
        } else {
            file.add(kind);
            file.add(dx + 128);
            file.add(dy + 128);
        }
    }

    int write(int wanted) {
        argument(wanted == 0 || wanted == 1);
        format = wanted;
        file = new ArrayList<>();
        for (int[] c : made()) {
            int n = 1;
            while (c[0] == 1 && !fits(c, n)) {
                n++;
            }
            int[] last = {0, 0};
            for (int j = 1; j <= n; j++) {
                int[] next = step(new int[] {0, 0}, new int[] {c[1], c[2]}, j, n);
                add(c[0], next[0] - last[0], next[1] - last[1]);
                last = next;
            }
        }
        int sum = 0;
        for (int b : file) {
            sum += b;
        }
        file.add(sum % 256);
        return file.size();
    }

    private boolean fits(int[] c, int n) {
        int[] last = {0, 0};
        for (int j = 1; j <= n; j++) {
            int[] next = step(new int[] {0, 0}, new int[] {c[1], c[2]}, j, n);
            if (reach(last, next) > limit(format)) {
                return false;
            }
            last = next;
        }
        return true;
    }

    private int size() {
        return file == null ? 0 : file.size();
    }

    int byteAt(int place) {
        there(place >= 0 && place < size());
        return file.get(place);
    }

    int damage(int place, int value) {
        there(place >= 0 && place < size());
        argument(value >= 0 && value <= 255);
        return file.set(place, value);
    }

    int shorten(int length) {
        argument(length >= 0 && length <= size());
        int before = size();
        if (file != null) {
            file = new ArrayList<>(file.subList(0, length));
        }
        return before;
    }

    /** The fault, and how many STITCHes are ahead of it. */
    private int[] read() {
        if (file == null) {
            return new int[] {0, 0};
        }
        int stitches = 0;
        int kind = -1;
        int sum = 0;
        int place = 0;
        int width = format == 0 ? 2 : 3;
        while (kind != 4) {
            int sumOfCommand = 0;
            for (int i = 0; i < width; i++, place++) {
                if (place >= file.size()) {
                    return new int[] {file.size(), stitches};
                }
                int b = file.get(place);
                int difference;
                if (format == 0 && i == 0) {
                    kind = b >> 5;
                    difference = (b & 31) - 16;
                } else if (format == 0) {
                    difference = b - 16;
                } else if (i == 0) {
                    kind = b;
                    difference = 0;
                } else {
                    difference = b - 128;
                }
                boolean none = kind == 2 || kind == 3 || kind == 4;
                int most = none ? 0 : limit(format);
                if (kind > 4 || difference > most || difference < -most) {
                    return new int[] {place, stitches};
                }
                sumOfCommand += b;
            }
            sum += sumOfCommand;
            stitches += kind == 0 ? 1 : 0;
        }
        if (place == file.size() || file.get(place) != sum % 256) {
            return new int[] {place, stitches};
        }
        return new int[] {place + 1 == file.size() ? -1 : place + 1, stitches};
    }

    int fault() {
        return read()[0];
    }

    int reads() {
        return read()[1];
    }

    // ---- the machine

    void start(int count, int wantedLate) {
        argument(count >= 1 && count <= 4 && wantedLate >= 0 && wantedLate <= 20);
        program = made();
        heads.clear();
        for (int i = 0; i < count; i++) {
            heads.add(new Head());
        }
        late = wantedLate;
        at = 0;
    }

    private boolean seen(Head head) {
        return head.broken && (at >= head.brokeAt + late || at == program.size());
    }

    int run(int most) {
        argument(most >= 1 && most <= 1000);
        state(program != null);
        for (int ran = 0; ran < most; ran++) {
            for (Head head : heads) {
                if (seen(head)) {
                    return ran;
                }
            }
            if (at == program.size()) {
                return ran;
            }
            for (Head head : heads) {
                head.sewn += !head.broken && program.get(at)[0] == 0 ? 1 : 0;
            }
            at++;
        }
        return most;
    }

    private Head head(int number) {
        there(number >= 0 && number < heads.size());
        return heads.get(number);
    }

    void breaks(int number) {
        Head head = head(number);
        state(!head.broken);
        head.broken = true;
        head.brokeAt = at;
    }

    int mend(int number) {
        Head head = head(number);
        state(seen(head));
        int again = 0;
        for (int i = head.brokeAt - 3; i < at; i++) {
            again += i >= 0 && program.get(i)[0] == 0 ? 1 : 0;
        }
        head.broken = false;
        head.sewn += again;
        return again;
    }

    int sewn(int number) {
        return head(number).sewn;
    }
}
