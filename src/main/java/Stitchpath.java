/**
 * Embroidery by machine, in whole steps: fields, the commands that sew them, files of these
 * commands, and a machine of several heads that runs them.
 *
 * <p>All rows are made once and used again, for what a run makes is never given back.
 */
public final class Stitchpath {
    public static final int NONE = -1;
    public static final int STITCH = 0, JUMP = 1, TRIM = 2, STOP = 3, END = 4;
    public static final int SHORT = 0, LONG = 1;

    private static final int PLACES = 32;
    private static final int COLOURS = 6;
    private static final int LAYERS = 4;
    private static final int MOST_FIELDS = 8;
    private static final int MOST_CORNERS = 8;
    private static final int LEAST_CORNERS = 3;
    private static final int COLUMN_CORNERS = 4;
    private static final int MOST_DENSITY = 8;
    private static final int MOST_LENGTH = 12;
    private static final int MOST_SHIFT = 11;
    private static final int MOST_PULL = 3;
    private static final int MOST_HUNDREDTHS = 400;
    private static final int FIRST_BOUND = 8;
    private static final int MOST_BOUND = 100;
    private static final int KINDS = 5;
    private static final int WHATS = 4;
    private static final int MOST_HEADS = 4;
    private static final int MOST_LATE = 20;
    private static final int MOST_RUN = 1000;
    private static final int LONGEST_STITCH = 12;
    private static final int QUICK_STITCH = 4;
    private static final int SEWN_AGAIN = 3;

    // An underlay has 1 and 8 times 31 points. Each of 31 rows has at most four spans: they are
    // together at most 31 long, and each has 6 points more by the pull, and 1 by its second end.
    private static final int MOST_POINTS = 1 + 8 * 31 + 31 * (31 + 4 * 7);
    // A field has a command for each point, and perhaps a STOP and a TRIM; END is one more.
    private static final int MOST_COMMANDS = MOST_FIELDS * (MOST_POINTS + 2) + 1;
    // Three bytes for each in LONG, and the sum. SHORT needs less: a span has no JUMP in it, so
    // that few commands are cut into several ones.
    private static final int MOST_BYTES = 3 * MOST_COMMANDS + 1;

    private final Field[] fields = new Field[MOST_FIELDS];
    private final boolean[] waiting = new boolean[MOST_FIELDS];
    private final Plan plan = new Plan();
    private final Raster raster = new Raster();
    private final Pattern pattern = new Pattern();
    private final Machine machine = new Machine();
    private int fieldCount;
    private int trimBound = FIRST_BOUND;
    private boolean planned;

    public Stitchpath() {
    }

    // ---- fields

    public int field(int colour, int layer, boolean column) throws IllegalArgumentException, IllegalStateException {
        if (!isWithin(colour, 0, COLOURS - 1)) {
            throw new IllegalArgumentException("a colour is 0 to 5");
        }
        if (!isWithin(layer, 0, LAYERS - 1)) {
            throw new IllegalArgumentException("a layer is 0 to 3");
        }
        if (fieldCount >= MOST_FIELDS || fieldCount >= fields.length) {
            throw new IllegalStateException("there are 8 fields");
        }
        int number = fieldCount;
        fields[number] = new Field(colour, layer, column);
        fieldCount = number + 1;
        planned = false;
        return number;
    }

    public int corner(int field, int x, int y)
            throws IndexOutOfBoundsException, IllegalArgumentException, IllegalStateException {
        Field changed = fieldNumbered(field);
        if (!isWithin(x, 0, PLACES - 1) || !isWithin(y, 0, PLACES - 1)) {
            throw new IllegalArgumentException("a place is 0 to 31");
        }
        if (changed.isFull()) {
            throw new IllegalStateException("the field has all its corners");
        }
        changed.putCorner(x, y);
        planned = false;
        return changed.cornerCount;
    }

    public void sew(int field, int density, int length, int shift, int pull, boolean underlay)
            throws IndexOutOfBoundsException, IllegalArgumentException {
        Field changed = fieldNumbered(field);
        if (!isWithin(density, 1, MOST_DENSITY)) {
            throw new IllegalArgumentException("a density is 1 to 8");
        }
        if (!isWithin(length, 1, MOST_LENGTH)) {
            throw new IllegalArgumentException("a length is 1 to 12");
        }
        if (!isWithin(shift, 0, MOST_SHIFT)) {
            throw new IllegalArgumentException("a shift is 0 to 11");
        }
        if (!isWithin(pull, 0, MOST_PULL)) {
            throw new IllegalArgumentException("a pull is 0 to 3");
        }
        changed.settle(density, length, shift, pull, underlay);
        planned = false;
    }

    public void scale(int field, int hundredths)
            throws IndexOutOfBoundsException, IllegalArgumentException, IllegalStateException {
        Field changed = fieldNumbered(field);
        if (!isWithin(hundredths, 1, MOST_HUNDREDTHS)) {
            throw new IllegalArgumentException("hundredths are 1 to 400");
        }
        if (!changed.canResize(hundredths)) {
            throw new IllegalStateException("a corner would not be 0 to 31");
        }
        changed.resize(hundredths);
        planned = false;
    }

    public int bound(int bound) throws IllegalArgumentException {
        if (!isWithin(bound, 0, MOST_BOUND)) {
            throw new IllegalArgumentException("a bound is 0 to 100");
        }
        int before = trimBound;
        trimBound = bound;
        planned = false;
        return before;
    }

    // ---- commands

    public int commands() {
        refresh();
        return plan.size;
    }

    public int ofCommand(int command, int what) throws IndexOutOfBoundsException, IllegalArgumentException {
        refresh();
        if (!isWithin(command, 0, plan.size - 1)) {
            throw new IndexOutOfBoundsException("there is no such command");
        }
        if (!isWithin(what, 0, WHATS - 1)) {
            throw new IllegalArgumentException("there are 0 to 3 to tell");
        }
        return plan.told(command, what);
    }

    public int count(int kind) throws IllegalArgumentException {
        if (!isWithin(kind, 0, KINDS - 1)) {
            throw new IllegalArgumentException("a kind is STITCH to END");
        }
        refresh();
        return plan.kindCounts[kind];
    }

    public float time() {
        refresh();
        return plan.seconds;
    }

    public int thread(int colour) throws IllegalArgumentException {
        if (!isWithin(colour, 0, COLOURS - 1)) {
            throw new IllegalArgumentException("a colour is 0 to 5");
        }
        refresh();
        return plan.threads[colour];
    }

    public float covered(int field) throws IndexOutOfBoundsException {
        Field asked = fieldNumbered(field);
        if (asked.column) {
            return 0.0f;
        }
        raster.walk(asked.needlePoints());
        return raster.partCovered(asked);
    }

    public int touched(int field) throws IndexOutOfBoundsException {
        Field asked = fieldNumbered(field);
        raster.walk(asked.needlePoints());
        return raster.cellCount;
    }

    // ---- files

    public int write(int format) throws IllegalArgumentException {
        if (format != SHORT && format != LONG) {
            throw new IllegalArgumentException("a format is SHORT or LONG");
        }
        refresh();
        pattern.take(plan, format);
        return pattern.size;
    }

    public int byteAt(int place) throws IndexOutOfBoundsException {
        if (!pattern.has(place)) {
            throw new IndexOutOfBoundsException("there is no such byte");
        }
        return pattern.bytes[place];
    }

    public int damage(int place, int value) throws IndexOutOfBoundsException, IllegalArgumentException {
        if (!pattern.has(place)) {
            throw new IndexOutOfBoundsException("there is no such byte");
        }
        if (!isWithin(value, 0, 255)) {
            throw new IllegalArgumentException("a byte is 0 to 255");
        }
        int before = pattern.bytes[place];
        pattern.bytes[place] = value;
        return before;
    }

    public int shorten(int length) throws IllegalArgumentException {
        // Without a file the length is 0, so that only 0 is within it.
        if (!isWithin(length, 0, pattern.size)) {
            throw new IllegalArgumentException("the file is not so long");
        }
        int before = pattern.size;
        pattern.size = length;
        return before;
    }

    public int fault() {
        // Without a file the length is 0, and that is the fault due.
        pattern.inspect();
        return pattern.faultPlace;
    }

    public int reads() {
        pattern.inspect();
        return pattern.stitchesRead;
    }

    // ---- the machine

    public void start(int heads, int late) throws IllegalArgumentException {
        if (!isWithin(heads, 1, MOST_HEADS)) {
            throw new IllegalArgumentException("heads are 1 to 4");
        }
        if (!isWithin(late, 0, MOST_LATE)) {
            throw new IllegalArgumentException("late is 0 to 20");
        }
        refresh();
        machine.begin(plan, heads, late);
    }

    public int run(int commands) throws IllegalArgumentException, IllegalStateException {
        if (!isWithin(commands, 1, MOST_RUN)) {
            throw new IllegalArgumentException("commands are 1 to 1000");
        }
        if (machine.headCount == 0) {
            throw new IllegalStateException("there is no machine");
        }
        return machine.advance(commands);
    }

    public void breaks(int head) throws IndexOutOfBoundsException, IllegalStateException {
        if (!machine.has(head)) {
            throw new IndexOutOfBoundsException("there is no such head");
        }
        if (machine.broken[head]) {
            throw new IllegalStateException("the thread is broken");
        }
        machine.tear(head);
    }

    public int mend(int head) throws IndexOutOfBoundsException, IllegalStateException {
        if (!machine.has(head)) {
            throw new IndexOutOfBoundsException("there is no such head");
        }
        if (!machine.isSeen(head)) {
            throw new IllegalStateException("no break was seen");
        }
        return machine.repair(head);
    }

    public int sewn(int head) throws IndexOutOfBoundsException {
        if (!machine.has(head)) {
            throw new IndexOutOfBoundsException("there is no such head");
        }
        return machine.stitches[head];
    }

    // ---- the order of fields

    private Field fieldNumbered(int number) {
        if (number < 0 || number >= fieldCount || number >= fields.length) {
            throw new IndexOutOfBoundsException("there is no such field");
        }
        Field found = fields[number];
        if (found == null) {
            throw new IndexOutOfBoundsException("there is no such field");
        }
        return found;
    }

    private void refresh() {
        if (planned) {
            return;
        }
        for (int i = 0; i < waiting.length && i < fields.length; i++) {
            Field field = fields[i];
            waiting[i] = field != null && field.needlePoints().size > 0;
        }
        plan.begin();
        for (int turn = 0; turn < MOST_FIELDS; turn++) {
            sewNextField();
        }
        plan.put(END, 0, 0, NONE);
        planned = true;
    }

    private void sewNextField() {
        int number = NONE;
        Field next = null;
        for (int i = 0; i < waiting.length && i < fields.length; i++) {
            Field field = fields[i];
            if (field != null && waiting[i] && (next == null || comesAhead(field, next))) {
                number = i;
                next = field;
            }
        }
        if (next != null && number >= 0 && number < waiting.length) {
            waiting[number] = false;
            plan.sewField(next, number, trimBound);
        }
    }

    /** Whether a field is sewn ahead of one with a lower number, with the needle where it is now. */
    private boolean comesAhead(Field field, Field lower) {
        if (field.layer != lower.layer) {
            return field.layer < lower.layer;
        }
        boolean isOfColour = field.colour == plan.colour;
        boolean lowerIsOfColour = lower.colour == plan.colour;
        if (isOfColour != lowerIsOfColour) {
            return isOfColour;
        }
        return plan.squareToFirst(field.points) < plan.squareToFirst(lower.points);
    }

    // ---- numbers

    private static boolean isWithin(int number, int least, int most) {
        return number >= least && number <= most;
    }

    /** The place j of n on the way between two numbers. */
    private static int placeOf(int from, int to, int j, int n) {
        return n <= 0 ? from : from + Math.floorDiv((to - from) * j, n);
    }

    private static int roundedUp(int number, int divisor) {
        return divisor <= 0 ? 0 : (number + divisor - 1) / divisor;
    }

    private static int greaterDifference(int differenceX, int differenceY) {
        return Math.max(Math.abs(differenceX), Math.abs(differenceY));
    }

    /** The whole root of a number below 65536. */
    private static int wholeRoot(int square) {
        int root = 0;
        for (int bit = 128; bit > 0; bit >>= 1) {
            int tried = root + bit;
            if (tried * tried <= square) {
                root = tried;
            }
        }
        return root;
    }

    /** The needle points of a field, in their order. */
    private static final class Points {
        final int[] xs = new int[MOST_POINTS];
        final int[] ys = new int[MOST_POINTS];
        int size;

        void put(int x, int y) {
            int at = size;
            if (at < xs.length && at < ys.length) {
                xs[at] = x;
                ys[at] = y;
                size = at + 1;
            }
        }

        int firstX() {
            return size > 0 ? xs[0] : 0;
        }

        int firstY() {
            return size > 0 ? ys[0] : 0;
        }
    }

    private static final class Field {
        final int colour;
        final int layer;
        final boolean column;
        final int[] cornerXs = new int[MOST_CORNERS];
        final int[] cornerYs = new int[MOST_CORNERS];
        final int[] crossings = new int[MOST_CORNERS];
        final Points points = new Points();
        int cornerCount;
        int crossingCount;
        int density = 2;
        int length = 6;
        int shift;
        int pull;
        boolean underlay;
        boolean drawn;

        Field(int colour, int layer, boolean column) {
            this.colour = colour;
            this.layer = layer;
            this.column = column;
        }

        boolean isFull() {
            return cornerCount >= (column ? COLUMN_CORNERS : MOST_CORNERS);
        }

        void putCorner(int x, int y) {
            int at = cornerCount;
            if (at < cornerXs.length && at < cornerYs.length) {
                cornerXs[at] = x;
                cornerYs[at] = y;
                cornerCount = at + 1;
            }
            drawn = false;
        }

        void settle(int density, int length, int shift, int pull, boolean underlay) {
            this.density = density;
            this.length = length;
            this.shift = shift;
            this.pull = pull;
            this.underlay = underlay;
            drawn = false;
        }

        boolean canResize(int hundredths) {
            for (int i = 0; i < cornerCount && i < cornerXs.length && i < cornerYs.length; i++) {
                int greater = Math.max(cornerXs[i], cornerYs[i]);
                if (greater * hundredths / 100 >= PLACES) {
                    return false;
                }
            }
            return true;
        }

        void resize(int hundredths) {
            for (int i = 0; i < cornerCount && i < cornerXs.length && i < cornerYs.length; i++) {
                cornerXs[i] = cornerXs[i] * hundredths / 100;
                cornerYs[i] = cornerYs[i] * hundredths / 100;
            }
            drawn = false;
        }

        /** Kept until the field changes, for each call that asks for commands needs them. */
        Points needlePoints() {
            if (drawn) {
                return points;
            }
            points.size = 0;
            if (column) {
                drawColumn();
            } else if (cornerCount >= LEAST_CORNERS) {
                if (underlay) {
                    drawUnderlay();
                }
                drawRows();
            }
            drawn = true;
            return points;
        }

        private void drawColumn() {
            if (cornerCount < COLUMN_CORNERS || cornerCount > cornerXs.length
                    || cornerCount > cornerYs.length || density <= 0) {
                return;
            }
            int[] xs = cornerXs;
            int[] ys = cornerYs;
            int first = greaterDifference(xs[1] - xs[0], ys[1] - ys[0]);
            int second = greaterDifference(xs[2] - xs[3], ys[2] - ys[3]);
            int n = Math.max(first, second) / density + 1;
            for (int j = 0; j <= n; j++) {
                points.put(placeOf(xs[0], xs[1], j, n), placeOf(ys[0], ys[1], j, n));
                points.put(placeOf(xs[3], xs[2], j, n), placeOf(ys[3], ys[2], j, n));
            }
        }

        private int cornerBehind(int corner) {
            return corner + 1 < cornerCount ? corner + 1 : 0;
        }

        private void drawUnderlay() {
            points.put(cornerXs[0], cornerYs[0]);
            for (int i = 0; i < cornerCount && i < cornerXs.length && i < cornerYs.length; i++) {
                int next = cornerBehind(i);
                if (next < cornerXs.length && next < cornerYs.length) {
                    drawEdge(cornerXs[i], cornerYs[i], cornerXs[next], cornerYs[next]);
                }
            }
        }

        private void drawEdge(int fromX, int fromY, int toX, int toY) {
            int n = roundedUp(greaterDifference(toX - fromX, toY - fromY), length);
            for (int j = 1; j <= n; j++) {
                points.put(placeOf(fromX, toX, j, n), placeOf(fromY, toY, j, n));
            }
        }

        private void drawRows() {
            int least = leastY();
            int rows = roundedUp(greatestY() - least, density);
            for (int row = 0; row < rows; row++) {
                int y = least + row * density;
                cross(y);
                int spans = crossingCount / 2;
                boolean back = row % 2 == 1;
                for (int i = 0; i < spans; i++) {
                    drawSpan(back ? spans - 1 - i : i, row, y, back);
                }
            }
        }

        private void drawSpan(int span, int row, int y, boolean back) {
            int at = 2 * span;
            if (at < 0 || at + 1 >= crossings.length) {
                return;
            }
            int left = crossings[at] - pull;
            int right = crossings[at + 1] + pull;
            int from = back ? right : left;
            int way = back ? -1 : 1;
            points.put(from, y);
            for (int i = 1; i < right - left; i++) {
                int x = from + way * i;
                if (length > 0 && Math.floorMod(x - row * shift, length) == 0) {
                    points.put(x, y);
                }
            }
            if (left != right) {
                points.put(back ? left : right, y);
            }
        }

        int leastY() {
            int least = PLACES;
            for (int i = 0; i < cornerCount && i < cornerYs.length; i++) {
                least = Math.min(least, cornerYs[i]);
            }
            return least;
        }

        int greatestY() {
            int greatest = 0;
            for (int i = 0; i < cornerCount && i < cornerYs.length; i++) {
                greatest = Math.max(greatest, cornerYs[i]);
            }
            return greatest;
        }

        /** Finds where the edges cross a row, by size. */
        void cross(int y) {
            crossingCount = 0;
            for (int i = 0; i < cornerCount && i < cornerXs.length && i < cornerYs.length; i++) {
                int next = cornerBehind(i);
                if (next >= cornerXs.length || next >= cornerYs.length) {
                    return;
                }
                int fromY = cornerYs[i];
                int toY = cornerYs[next];
                if (fromY != toY && Math.min(fromY, toY) <= y && y < Math.max(fromY, toY)) {
                    int product = (y - fromY) * (cornerXs[next] - cornerXs[i]);
                    putCrossing(cornerXs[i] + Math.floorDiv(product, toY - fromY));
                }
            }
        }

        private void putCrossing(int x) {
            int at = crossingCount;
            if (at >= crossings.length) {
                return;
            }
            while (at > 0 && crossings[at - 1] > x) {
                crossings[at] = crossings[at - 1];
                at--;
            }
            crossings[at] = x;
            crossingCount++;
        }

        /** Whether the row that was crossed last has a span, without the pull, at x. */
        boolean spans(int x) {
            for (int i = 0; i + 1 < crossingCount && i + 1 < crossings.length; i += 2) {
                if (crossings[i] <= x && x <= crossings[i + 1]) {
                    return true;
                }
            }
            return false;
        }
    }

    /** The commands of all fields with their sums, and the needle that goes along them. */
    private static final class Plan {
        final int[] kinds = new int[MOST_COMMANDS];
        final int[] differencesX = new int[MOST_COMMANDS];
        final int[] differencesY = new int[MOST_COMMANDS];
        final int[] owners = new int[MOST_COMMANDS];
        final int[] kindCounts = new int[KINDS];
        final int[] threads = new int[COLOURS];
        int size;
        float seconds;
        int needleX;
        int needleY;
        int colour = NONE;

        void begin() {
            size = 0;
            seconds = 0.0f;
            needleX = 0;
            needleY = 0;
            colour = NONE;
            for (int i = 0; i < kindCounts.length; i++) {
                kindCounts[i] = 0;
            }
            for (int i = 0; i < threads.length; i++) {
                threads[i] = 0;
            }
        }

        int squareToFirst(Points points) {
            int differenceX = points.firstX() - needleX;
            int differenceY = points.firstY() - needleY;
            return differenceX * differenceX + differenceY * differenceY;
        }

        void sewField(Field field, int number, int trimBound) {
            Points points = field.points;
            if (colour != NONE && colour != field.colour) {
                put(STOP, 0, 0, NONE);
            }
            colour = field.colour;
            // Where the needle is, the square is 0, and that is never above the bound's.
            if (squareToFirst(points) > trimBound * trimBound) {
                put(TRIM, 0, 0, NONE);
            }
            goTo(points.firstX(), points.firstY(), number, false);
            for (int i = 1; i < points.size && i < points.xs.length && i < points.ys.length; i++) {
                goTo(points.xs[i], points.ys[i], number, true);
            }
        }

        private void goTo(int x, int y, int number, boolean mayStitch) {
            int differenceX = x - needleX;
            int differenceY = y - needleY;
            int greater = greaterDifference(differenceX, differenceY);
            if (greater != 0) {
                int kind = mayStitch && greater <= LONGEST_STITCH ? STITCH : JUMP;
                put(kind, differenceX, differenceY, number);
            }
            needleX = x;
            needleY = y;
        }

        void put(int kind, int differenceX, int differenceY, int owner) {
            int at = size;
            if (at >= kinds.length || at >= differencesX.length || at >= differencesY.length
                    || at >= owners.length || kind < 0 || kind >= kindCounts.length) {
                return;
            }
            kinds[at] = kind;
            differencesX[at] = differenceX;
            differencesY[at] = differenceY;
            owners[at] = owner;
            size = at + 1;
            kindCounts[kind]++;
            seconds += secondsOf(kind, greaterDifference(differenceX, differenceY));
            if (kind == STITCH && colour >= 0 && colour < threads.length) {
                int square = differenceX * differenceX + differenceY * differenceY;
                threads[colour] += wholeRoot(100 * square);
            }
        }

        private static float secondsOf(int kind, int greater) {
            switch (kind) {
                case STITCH:
                    return greater <= QUICK_STITCH ? 0.075f : 0.1f;
                case JUMP:
                    return 0.2f;
                case TRIM:
                    return 6.0f;
                case STOP:
                    return 8.0f;
                default:
                    return 0.0f;
            }
        }

        int told(int command, int what) {
            if (command < 0 || command >= kinds.length || command >= differencesX.length
                    || command >= differencesY.length || command >= owners.length) {
                return NONE;
            }
            switch (what) {
                case 0:
                    return kinds[command];
                case 1:
                    return differencesX[command];
                case 2:
                    return differencesY[command];
                default:
                    return owners[command];
            }
        }
    }

    /** The cells that the STITCHes of one field touch. */
    private static final class Raster {
        final boolean[] cells = new boolean[PLACES * PLACES];
        int cellCount;

        void walk(Points points) {
            cellCount = 0;
            for (int i = 0; i < cells.length; i++) {
                cells[i] = false;
            }
            for (int i = 1; i < points.size && i < points.xs.length && i < points.ys.length; i++) {
                walkTo(points.xs[i - 1], points.ys[i - 1], points.xs[i], points.ys[i]);
            }
        }

        private void walkTo(int fromX, int fromY, int toX, int toY) {
            int n = greaterDifference(toX - fromX, toY - fromY);
            // Two points that are one have no STITCH, and those far apart have a JUMP.
            if (n == 0 || n > LONGEST_STITCH) {
                return;
            }
            for (int j = 0; j <= n; j++) {
                touch(placeOf(fromX, toX, j, n), placeOf(fromY, toY, j, n));
            }
        }

        private void touch(int x, int y) {
            if (!isWithin(x, 0, PLACES - 1) || !isWithin(y, 0, PLACES - 1)) {
                return;
            }
            int at = y * PLACES + x;
            if (at < cells.length && !cells[at]) {
                cells[at] = true;
                cellCount++;
            }
        }

        float partCovered(Field field) {
            int all = 0;
            int covered = 0;
            int behind = Math.min(field.greatestY(), PLACES);
            for (int y = field.leastY(); y < behind; y++) {
                field.cross(y);
                for (int x = 0; x < PLACES; x++) {
                    if (field.spans(x)) {
                        all++;
                        covered += isNear(x, y, field.density) ? 1 : 0;
                    }
                }
            }
            return all == 0 ? 0.0f : (float) covered / (float) all;
        }

        private boolean isNear(int x, int y, int density) {
            int least = Math.max(0, y - density + 1);
            int most = Math.min(PLACES - 1, y + density - 1);
            for (int row = least; row <= most; row++) {
                int at = row * PLACES + x;
                if (at >= 0 && at < cells.length && cells[at]) {
                    return true;
                }
            }
            return false;
        }
    }

    /** A file; no file is one without bytes, for both answer alike. */
    private static final class Pattern {
        final int[] bytes = new int[MOST_BYTES];
        int size;
        int format = SHORT;
        int faultPlace;
        int stitchesRead;

        boolean has(int place) {
            return place >= 0 && place < size && place < bytes.length;
        }

        private int limit() {
            return format == SHORT ? 12 : 121;
        }

        private int bytesOfCommand() {
            return format == SHORT ? 2 : 3;
        }

        void take(Plan plan, int format) {
            this.format = format;
            size = 0;
            for (int i = 0; i < plan.size; i++) {
                putWhole(plan.told(i, 0), plan.told(i, 1), plan.told(i, 2));
            }
            putByte(sumAhead(size));
        }

        private void putWhole(int kind, int differenceX, int differenceY) {
            if (kind != JUMP) {
                putCommand(kind, differenceX, differenceY);
                return;
            }
            int n = roundedUp(greaterDifference(differenceX, differenceY), limit());
            int x = 0;
            int y = 0;
            for (int j = 1; j <= n; j++) {
                int nextX = placeOf(0, differenceX, j, n);
                int nextY = placeOf(0, differenceY, j, n);
                putCommand(JUMP, nextX - x, nextY - y);
                x = nextX;
                y = nextY;
            }
        }

        private void putCommand(int kind, int differenceX, int differenceY) {
            if (format == SHORT) {
                putByte(32 * kind + differenceX + 16);
                putByte(differenceY + 16);
            } else {
                putByte(kind);
                putByte(differenceX + 128);
                putByte(differenceY + 128);
            }
        }

        private void putByte(int value) {
            int at = size;
            if (at < bytes.length) {
                bytes[at] = value;
                size = at + 1;
            }
        }

        private int sumAhead(int place) {
            int sum = 0;
            for (int i = 0; i < place && i < bytes.length; i++) {
                sum += bytes[i];
            }
            return sum % 256;
        }

        /** Finds the fault, and counts the STITCHes ahead of it. */
        void inspect() {
            int bytesOfOne = bytesOfCommand();
            stitchesRead = 0;
            faultPlace = size;
            // A file has fewer commands than bytes; behind its last one the size is what is wrong.
            for (int i = 0; i < size; i++) {
                int place = i * bytesOfOne;
                int wrong = wrongWithin(place);
                if (wrong != NONE) {
                    faultPlace = wrong;
                    return;
                }
                int kind = kindAt(place);
                if (kind == STITCH) {
                    stitchesRead++;
                } else if (kind == END) {
                    faultPlace = wrongBehindEnd(place + bytesOfOne);
                    return;
                }
            }
        }

        /** The first byte of a command that cannot stand there, or NONE. */
        private int wrongWithin(int place) {
            int kind = kindAt(place);
            for (int i = 0; i < bytesOfCommand(); i++) {
                int at = place + i;
                if (!has(at)) {
                    return size;
                }
                int difference = Math.abs(differenceAt(at, i));
                if (kind > END || difference > limit() || kind >= TRIM && difference != 0) {
                    return at;
                }
            }
            return NONE;
        }

        private int kindAt(int place) {
            if (!has(place)) {
                return END;
            }
            return format == SHORT ? bytes[place] / 32 : bytes[place];
        }

        /** The difference that a command's byte of this index tells; 0 if it tells none. */
        private int differenceAt(int place, int index) {
            if (!has(place)) {
                return 0;
            }
            if (format == SHORT) {
                return index == 0 ? bytes[place] % 32 - 16 : bytes[place] - 16;
            }
            return index == 0 ? 0 : bytes[place] - 128;
        }

        private int wrongBehindEnd(int place) {
            if (!has(place)) {
                return size;
            }
            if (bytes[place] != sumAhead(place)) {
                return place;
            }
            return place + 1 < size ? place + 1 : NONE;
        }
    }

    /** A machine; none is one without heads. */
    private static final class Machine {
        // How many STITCHes are ahead of each place: all that a machine needs of its commands.
        final int[] stitchesAhead = new int[MOST_COMMANDS + 1];
        final boolean[] broken = new boolean[MOST_HEADS];
        final int[] brokeAt = new int[MOST_HEADS];
        final int[] stitches = new int[MOST_HEADS];
        int headCount;
        int late;
        int commandCount;
        int place;

        boolean has(int head) {
            return head >= 0 && head < headCount && head < broken.length
                    && head < brokeAt.length && head < stitches.length;
        }

        void begin(Plan plan, int heads, int late) {
            headCount = heads;
            this.late = late;
            place = 0;
            commandCount = 0;
            for (int i = 0; i < plan.size && i + 1 < stitchesAhead.length; i++) {
                int stitch = plan.told(i, 0) == STITCH ? 1 : 0;
                stitchesAhead[i + 1] = stitchesAhead[i] + stitch;
                commandCount = i + 1;
            }
            for (int i = 0; i < MOST_HEADS; i++) {
                broken[i] = false;
                brokeAt[i] = 0;
                stitches[i] = 0;
            }
        }

        private int stitchesBetween(int from, int to) {
            if (from < 0 || to < from || to >= stitchesAhead.length) {
                return 0;
            }
            return stitchesAhead[to] - stitchesAhead[from];
        }

        boolean isSeen(int head) {
            return has(head) && broken[head] && (place - brokeAt[head] >= late || place >= commandCount);
        }

        private boolean stands() {
            for (int i = 0; i < headCount; i++) {
                if (isSeen(i)) {
                    return true;
                }
            }
            return false;
        }

        int advance(int most) {
            int ran = 0;
            while (ran < most && place < commandCount && !stands()) {
                step();
                ran++;
            }
            return ran;
        }

        private void step() {
            int stitch = stitchesBetween(place, place + 1);
            for (int i = 0; i < headCount && i < broken.length && i < stitches.length; i++) {
                if (!broken[i]) {
                    stitches[i] += stitch;
                }
            }
            place++;
        }

        void tear(int head) {
            if (has(head)) {
                broken[head] = true;
                brokeAt[head] = place;
            }
        }

        int repair(int head) {
            if (!has(head)) {
                return 0;
            }
            int again = stitchesBetween(Math.max(0, brokeAt[head] - SEWN_AGAIN), place);
            broken[head] = false;
            stitches[head] += again;
            return again;
        }
    }
}
