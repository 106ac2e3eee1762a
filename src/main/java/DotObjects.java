import java.util.Arrays;

/**
 * Things that move on a screen drawn line by line, of which only so many can be drawn on a line.
 * The words are those of the document (DOC.md); what is told there is not told again here.
 */
public final class DotObjects {
    public static final int NONE = -1, UNKNOWN = -1000000001, OUTSIDE = -1000000002, NOT = -1000000003, FULL = -1000000004;

    private static final int LINES = 24;
    private static final int COLUMNS = 32;
    /** The dots of a PICTURE each way; a THING can lie this far ahead of the SCREEN. */
    private static final int SIZE = 8;
    private static final int PART_COLUMNS = 8;
    private static final int PICTURES = 4;
    private static final int TURNS = 4;
    private static final int LEVELS = 4;
    private static final int RULES = 4;
    private static final int MOST_COLOUR = 7;
    private static final int MOST_ROW = 255;
    private static final int MOST_SPEED = 8;
    private static final int MOST_THINGS = 12;
    private static final int MOST_LIMIT = 8;
    private static final int MOST_FRAMES = 40;
    private static final int MOST_UNDONE = 20;
    private static final int MOST_ENTRIES = 20;
    private static final int IMAGES = 2;

    private final Scene scene;
    private final Screen screen;
    private final Holders holders;
    private final Forecast forecast;
    private final History history;
    private final Book book;
    private final Draws draws;
    private final int[][] images;
    private final int[] imageSeeds;
    private final boolean[] kept;

    public DotObjects() {
        scene = new Scene();
        screen = new Screen();
        holders = new Holders();
        forecast = new Forecast();
        history = new History();
        book = new Book();
        draws = new Draws();
        images = new int[IMAGES][Scene.CELLS];
        imageSeeds = new int[IMAGES];
        kept = new boolean[IMAGES];
    }

    // ---- the screen

    public int told(int what) {
        switch (what) {
            case 0: return scene.cell(Scene.COUNT);
            case 1: return scene.cell(Scene.LIMIT);
            case 2: return scene.cell(Scene.RULE);
            case 3: return scene.cell(Scene.FRAME);
            case 4: return missingNow();
            case 5: return screen.bestRule(scene);
            case 6: return screen.enough(scene);
            case 7: return holders.assign(scene);
            case 8: return screen.filledDots(scene);
            case 9: return book.size();
            case 10: return firstWrong();
            case 11: return history.size();
            default: return OUTSIDE;
        }
    }

    public int thing(int t, int what) {
        if (!isThing(t)) {
            return UNKNOWN;
        }
        switch (what) {
            case Scene.X:
            case Scene.Y:
            case Scene.DX:
            case Scene.DY: return scene.field(t, what) + SIZE;
            case Scene.PICTURE:
            case Scene.TURN:
            case Scene.LEVEL:
            case Scene.COLOUR: return scene.field(t, what);
            case 8: return screen.seenDots(scene, t);
            case 9: return screen.coveredDots(scene, t);
            case 10: return screen.droppedLines(scene, t);
            case 11: return holderOf(t);
            case 12: return screen.met(scene, t);
            case 13: return screen.wouldMeet(scene, t);
            default: return OUTSIDE;
        }
    }

    public int dot(int line, int column, int what) {
        if (!isDot(line, column)) {
            return OUTSIDE;
        }
        switch (what) {
            case 0: return screen.paintNow(scene, line).colourAt(scene, column);
            case 1: return screen.paintNow(scene, line).thingAt(column);
            case 2: return screen.paintWhole(scene, line).colourAt(scene, column);
            default: return OUTSIDE;
        }
    }

    public long line(int line, int part) {
        if (!isWithin(line, 0, LINES - 1) || !isWithin(part, 0, COLUMNS / PART_COLUMNS - 1)) {
            return NONE;
        }
        PaintedLine painted = screen.paintNow(scene, line);
        long figures = 0;
        for (int k = 0; k < PART_COLUMNS; k++) {
            figures = figures * 8 + painted.colourAt(scene, part * PART_COLUMNS + k);
        }
        return figures;
    }

    public int drawn(int line, int what) {
        if (!isWithin(line, 0, LINES - 1) || !isWithin(what, 0, 1)) {
            return OUTSIDE;
        }
        int drawnSet = screen.drawnSet(scene, line);
        return what == 0 ? drawnSet : scene.setOn(line) & ~drawnSet;
    }

    public int pictureRow(int p, int r) {
        if (!isPicture(p)) {
            return UNKNOWN;
        }
        if (!isWithin(r, 0, SIZE - 1)) {
            return OUTSIDE;
        }
        return scene.bits(p, r);
    }

    // ---- deeds

    public int row(int p, int r, int bits) {
        if (!isPicture(p)) {
            return UNKNOWN;
        }
        if (!isWithin(r, 0, SIZE - 1) || !isWithin(bits, 0, MOST_ROW)) {
            return OUTSIDE;
        }
        int was = scene.bits(p, r);
        history.remember(scene);
        scene.setBits(p, r, bits);
        return was;
    }

    public int put(int x, int y, int picture, int turn, int level, int colour) {
        if (!isPicture(picture)) {
            return UNKNOWN;
        }
        if (!isPlace(x, y) || !isManner(turn, level) || !isWithin(colour, 1, MOST_COLOUR)) {
            return OUTSIDE;
        }
        if (scene.isFull()) {
            return FULL;
        }
        history.remember(scene);
        return scene.add(x, y, picture, turn, level, colour);
    }

    public int move(int t, int x, int y) {
        if (!isThing(t)) {
            return UNKNOWN;
        }
        if (!isPlace(x, y)) {
            return OUTSIDE;
        }
        history.remember(scene);
        scene.setField(t, Scene.X, x);
        scene.setField(t, Scene.Y, y);
        return scene.linesOf(t);
    }

    public int turn(int t, int turn, int level) {
        if (!isThing(t)) {
            return UNKNOWN;
        }
        if (!isManner(turn, level)) {
            return OUTSIDE;
        }
        history.remember(scene);
        scene.setField(t, Scene.TURN, turn);
        scene.setField(t, Scene.LEVEL, level);
        return screen.seenDots(scene, t);
    }

    public int speed(int t, int dx, int dy) {
        if (!isThing(t)) {
            return UNKNOWN;
        }
        if (!isWithin(dx, -MOST_SPEED, MOST_SPEED) || !isWithin(dy, -MOST_SPEED, MOST_SPEED)) {
            return OUTSIDE;
        }
        history.remember(scene);
        scene.setField(t, Scene.DX, dx);
        scene.setField(t, Scene.DY, dy);
        return 1;
    }

    public int take(int t) {
        if (!isThing(t)) {
            return UNKNOWN;
        }
        history.remember(scene);
        scene.removeThing(t);
        return scene.cell(Scene.COUNT);
    }

    public int limit(int v) {
        if (!isWithin(v, 1, MOST_LIMIT)) {
            return OUTSIDE;
        }
        history.remember(scene);
        scene.setCell(Scene.LIMIT, v);
        return missingNow();
    }

    public int rule(int v) {
        if (!isWithin(v, 0, RULES - 1)) {
            return OUTSIDE;
        }
        history.remember(scene);
        scene.setCell(Scene.RULE, v);
        return missingNow();
    }

    public int frame(int n) {
        if (!isWithin(n, 1, MOST_FRAMES)) {
            return OUTSIDE;
        }
        history.remember(scene);
        for (int i = 0; i < n; i++) {
            scene.goNextFrame();
        }
        return scene.cell(Scene.FRAME);
    }

    public int drift(int n) {
        if (!isWithin(n, 1, MOST_THINGS)) {
            return OUTSIDE;
        }
        for (int i = 0; i < n && !scene.isFull(); i++) {
            history.remember(scene);
            draws.addThing(scene);
        }
        return scene.cell(Scene.COUNT);
    }

    public int undo(int n) {
        if (!isWithin(n, 1, MOST_UNDONE)) {
            return OUTSIDE;
        }
        if (n > history.size()) {
            return NOT;
        }
        history.bringBack(scene, n);
        return scene.cell(Scene.COUNT);
    }

    // ---- asked

    public int leftOut(int t, int n) {
        if (!isThing(t)) {
            return UNKNOWN;
        }
        if (!isWithin(n, 1, MOST_FRAMES)) {
            return OUTSIDE;
        }
        forecast.run(scene, n);
        return forecast.dropsOf(t);
    }

    public int worst(int n) {
        if (!isWithin(n, 1, MOST_FRAMES)) {
            return OUTSIDE;
        }
        forecast.run(scene, n);
        return forecast.mostDropped();
    }

    // ---- the book

    public int write(int line, int column, int colour) {
        if (!isDot(line, column) || !isWithin(colour, 0, MOST_COLOUR)) {
            return OUTSIDE;
        }
        if (book.isFull()) {
            return FULL;
        }
        return book.add(line, column, colour);
    }

    public int tear() {
        int had = book.size();
        book.clear();
        return had;
    }

    // ---- images

    public int seed(int v) {
        if (v < 0) {
            return OUTSIDE;
        }
        int was = draws.value();
        draws.start(v);
        return was;
    }

    public int keep(int i) {
        if (!isImage(i)) {
            return UNKNOWN;
        }
        scene.saveTo(images[i]);
        imageSeeds[i] = draws.value();
        kept[i] = true;
        history.clear();
        return 1;
    }

    public int goBack(int i) {
        if (!isImage(i)) {
            return UNKNOWN;
        }
        if (!kept[i]) {
            return NOT;
        }
        scene.loadFrom(images[i]);
        draws.start(imageSeeds[i]);
        history.clear();
        return 1;
    }

    // ---- what the calls above have in common

    private static boolean isWithin(int v, int least, int most) {
        return v >= least && v <= most;
    }

    private static boolean isPicture(int p) {
        return isWithin(p, 0, PICTURES - 1);
    }

    private static boolean isImage(int i) {
        return isWithin(i, 0, IMAGES - 1);
    }

    private static boolean isDot(int line, int column) {
        return isWithin(line, 0, LINES - 1) && isWithin(column, 0, COLUMNS - 1);
    }

    private static boolean isPlace(int x, int y) {
        return isWithin(x, -SIZE, COLUMNS - 1) && isWithin(y, -SIZE, LINES - 1);
    }

    private static boolean isManner(int turn, int level) {
        return isWithin(turn, 0, TURNS - 1) && isWithin(level, 0, LEVELS - 1);
    }

    private static boolean isInSet(int set, int k) {
        return ((set >>> k) & 1) == 1;
    }

    private boolean isThing(int t) {
        return isWithin(t, 0, scene.cell(Scene.COUNT) - 1);
    }

    private int missingNow() {
        return screen.missing(scene, scene.cell(Scene.RULE));
    }

    private int holderOf(int t) {
        holders.assign(scene);
        return holders.holderOf(t);
    }

    private int firstWrong() {
        for (int k = 0; k < book.size(); k++) {
            PaintedLine painted = screen.paintNow(scene, book.lineOf(k));
            if (painted.colourAt(scene, book.columnOf(k)) != book.colourOf(k)) {
                return k;
            }
        }
        return NONE;
    }

    /** All of section 1 in one array, so that an IMAGE or what can be undone is one copy of it. */
    private static final class Scene {
        static final int COUNT = 0;
        static final int LIMIT = 1;
        static final int RULE = 2;
        static final int FRAME = 3;

        /** The fields of a THING have the numbers by which thing() tells them. */
        static final int X = 0;
        static final int Y = 1;
        static final int PICTURE = 2;
        static final int TURN = 3;
        static final int LEVEL = 4;
        static final int COLOUR = 5;
        static final int DX = 6;
        static final int DY = 7;
        private static final int FIELDS = 8;

        private static final int MIRRORED = 1;
        private static final int UPSIDE_DOWN = 2;
        private static final int FIRST_LIMIT = 4;

        private static final int PICTURES_AT = 4;
        private static final int THINGS_AT = PICTURES_AT + PICTURES * SIZE;
        static final int CELLS = THINGS_AT + MOST_THINGS * FIELDS;

        private final int[] cells = new int[CELLS];

        Scene() {
            cells[LIMIT] = FIRST_LIMIT;
            for (int r = 0; r < SIZE; r++) {
                cells[PICTURES_AT + r] = MOST_ROW;
            }
        }

        void saveTo(int[] copy) {
            System.arraycopy(cells, 0, copy, 0, CELLS);
        }

        void loadFrom(int[] copy) {
            System.arraycopy(copy, 0, cells, 0, CELLS);
        }

        void copyFrom(Scene other) {
            loadFrom(other.cells);
        }

        int cell(int k) {
            return cells[k];
        }

        void setCell(int k, int v) {
            cells[k] = v;
        }

        int field(int t, int f) {
            return cells[THINGS_AT + t * FIELDS + f];
        }

        void setField(int t, int f, int v) {
            cells[THINGS_AT + t * FIELDS + f] = v;
        }

        int bits(int p, int r) {
            return cells[PICTURES_AT + p * SIZE + r];
        }

        void setBits(int p, int r, int bits) {
            cells[PICTURES_AT + p * SIZE + r] = bits;
        }

        boolean isFull() {
            return cells[COUNT] >= MOST_THINGS;
        }

        /** Only while it is not full. */
        int add(int x, int y, int picture, int turn, int level, int colour) {
            int t = cells[COUNT];
            setField(t, X, x);
            setField(t, Y, y);
            setField(t, PICTURE, picture);
            setField(t, TURN, turn);
            setField(t, LEVEL, level);
            setField(t, COLOUR, colour);
            setField(t, DX, 0);
            setField(t, DY, 0);
            cells[COUNT] = t + 1;
            return t;
        }

        void removeThing(int t) {
            int at = THINGS_AT + t * FIELDS;
            int later = cells[COUNT] - 1 - t;
            System.arraycopy(cells, at + FIELDS, cells, at, later * FIELDS);
            cells[COUNT]--;
        }

        void goNextFrame() {
            cells[FRAME]++;
            for (int t = 0; t < cells[COUNT]; t++) {
                setField(t, X, wrapped(field(t, X) + field(t, DX), COLUMNS + SIZE));
                setField(t, Y, wrapped(field(t, Y) + field(t, DY), LINES + SIZE));
            }
        }

        /** Round counts above 0; the least place is SIZE ahead of 0. */
        private static int wrapped(int place, int round) {
            return Math.floorMod(place + SIZE, round) - SIZE;
        }

        boolean isOn(int t, int line) {
            return isWithin(line - field(t, Y), 0, SIZE - 1);
        }

        int setOn(int line) {
            int set = 0;
            for (int t = 0; t < cells[COUNT]; t++) {
                if (isOn(t, line)) {
                    set |= 1 << t;
                }
            }
            return set;
        }

        int linesOf(int t) {
            int first = Math.max(field(t, Y), 0);
            int behind = Math.min(field(t, Y) + SIZE, LINES);
            return Math.max(behind - first, 0);
        }

        /** The COLUMNS where a THING HAS a dot on a LINE: column 0 is the highest bit, as in a row of a PICTURE. */
        int dotsOf(int t, int line) {
            int r = line - field(t, Y);
            if (!isWithin(r, 0, SIZE - 1)) {
                return 0;
            }
            int turn = field(t, TURN);
            int bits = bits(field(t, PICTURE), (turn & UPSIDE_DOWN) != 0 ? SIZE - 1 - r : r);
            if ((turn & MIRRORED) != 0) {
                bits = mirrored(bits);
            }
            // What lies left of the SCREEN is above bit 31 and goes with the cast, what lies right of it with the shift.
            return (int) (((long) bits << COLUMNS) >>> (field(t, X) + SIZE));
        }

        private static int mirrored(int bits) {
            int mirrored = 0;
            for (int k = 0; k < SIZE; k++) {
                mirrored = (mirrored << 1) | ((bits >>> k) & 1);
            }
            return mirrored;
        }
    }

    /** The order in which THINGS are chosen, the same for all LINES of a scene. */
    private static final class Order {
        private final int[] order = new int[MOST_THINGS];

        void arrange(Scene scene, int rule) {
            int count = scene.cell(Scene.COUNT);
            if (rule == 3) {
                arrangeByLevel(scene, count);
                return;
            }
            int first = rule == 2 && count > 0 ? Math.floorMod(scene.cell(Scene.FRAME), count) : 0;
            for (int k = 0; k < count; k++) {
                int inRing = first + k < count ? first + k : first + k - count;
                order[k] = rule == 1 ? count - 1 - k : inRing;
            }
        }

        private void arrangeByLevel(Scene scene, int count) {
            int k = 0;
            for (int level = 0; level < LEVELS; level++) {
                for (int t = 0; t < count; t++) {
                    if (scene.field(t, Scene.LEVEL) == level && k < MOST_THINGS) {
                        order[k] = t;
                        k++;
                    }
                }
            }
        }

        /** The SET of those DRAWN on a LINE; the scene is the one that was arranged. */
        int chosen(Scene scene, int line) {
            int room = scene.cell(Scene.LIMIT);
            int set = 0;
            for (int k = 0; k < scene.cell(Scene.COUNT) && room > 0; k++) {
                if (scene.isOn(order[k], line)) {
                    set |= 1 << order[k];
                    room--;
                }
            }
            return set;
        }
    }

    /** A LINE with some THINGS on it: who is SEEN where. COLUMNS are bits as in Scene.dotsOf. */
    private static final class PaintedLine {
        private static final int COLOUR_BITS = 3;

        private final int[] seen = new int[MOST_THINGS];
        /** For each bit of a COLOUR the COLUMNS whose COLOUR has it: two LINES are compared by three of these. */
        private final int[] planes = new int[COLOUR_BITS];
        private int filled;

        void paint(Scene scene, int line, int set) {
            Arrays.fill(seen, 0);
            Arrays.fill(planes, 0);
            filled = 0;
            for (int level = 0; level < LEVELS; level++) {
                for (int t = 0; t < scene.cell(Scene.COUNT); t++) {
                    if (isInSet(set, t) && scene.field(t, Scene.LEVEL) == level) {
                        paintBehind(t, scene.dotsOf(t, line), scene.field(t, Scene.COLOUR));
                    }
                }
            }
        }

        private void paintBehind(int t, int dots, int colour) {
            seen[t] = dots & ~filled;
            filled |= dots;
            for (int b = 0; b < COLOUR_BITS; b++) {
                if (isInSet(colour, b)) {
                    planes[b] |= seen[t];
                }
            }
        }

        int filledColumns() {
            return filled;
        }

        int seenColumns(int t) {
            return seen[t];
        }

        int thingAt(int column) {
            for (int t = 0; t < MOST_THINGS; t++) {
                if (isInSet(seen[t], COLUMNS - 1 - column)) {
                    return t;
                }
            }
            return NONE;
        }

        int colourAt(Scene scene, int column) {
            int t = thingAt(column);
            return t == NONE ? 0 : scene.field(t, Scene.COLOUR);
        }

        int otherColumns(PaintedLine than) {
            int other = 0;
            for (int b = 0; b < COLOUR_BITS; b++) {
                other |= planes[b] ^ than.planes[b];
            }
            return other;
        }
    }

    /** What is asked of a scene as it stands; nothing of it outlasts the call. */
    private static final class Screen {
        private final Order order = new Order();
        private final PaintedLine now = new PaintedLine();
        private final PaintedLine whole = new PaintedLine();

        int drawnSet(Scene scene, int line) {
            order.arrange(scene, scene.cell(Scene.RULE));
            return order.chosen(scene, line);
        }

        PaintedLine paintNow(Scene scene, int line) {
            now.paint(scene, line, drawnSet(scene, line));
            return now;
        }

        PaintedLine paintWhole(Scene scene, int line) {
            whole.paint(scene, line, scene.setOn(line));
            return whole;
        }

        int missing(Scene scene, int rule) {
            order.arrange(scene, rule);
            int missing = 0;
            for (int line = 0; line < LINES; line++) {
                int on = scene.setOn(line);
                int chosen = order.chosen(scene, line);
                if (chosen != on) {
                    now.paint(scene, line, chosen);
                    whole.paint(scene, line, on);
                    missing += Integer.bitCount(now.otherColumns(whole));
                }
            }
            return missing;
        }

        int bestRule(Scene scene) {
            int best = 0;
            int least = missing(scene, best);
            for (int rule = 1; rule < RULES; rule++) {
                int missing = missing(scene, rule);
                if (missing < least) {
                    best = rule;
                    least = missing;
                }
            }
            return best;
        }

        int enough(Scene scene) {
            int enough = 1;
            for (int line = 0; line < LINES; line++) {
                enough = Math.max(enough, Integer.bitCount(scene.setOn(line)));
            }
            return enough;
        }

        int filledDots(Scene scene) {
            int dots = 0;
            for (int line = 0; line < LINES; line++) {
                dots += Integer.bitCount(paintNow(scene, line).filledColumns());
            }
            return dots;
        }

        int seenDots(Scene scene, int t) {
            int dots = 0;
            for (int line = 0; line < LINES; line++) {
                dots += Integer.bitCount(paintNow(scene, line).seenColumns(t));
            }
            return dots;
        }

        int coveredDots(Scene scene, int t) {
            int dots = 0;
            for (int line = 0; line < LINES; line++) {
                if (isInSet(drawnSet(scene, line), t)) {
                    int seen = paintNow(scene, line).seenColumns(t);
                    dots += Integer.bitCount(scene.dotsOf(t, line) & ~seen);
                }
            }
            return dots;
        }

        int droppedLines(Scene scene, int t) {
            int lines = 0;
            for (int line = 0; line < LINES; line++) {
                if (scene.isOn(t, line) && !isInSet(drawnSet(scene, line), t)) {
                    lines |= 1 << line;
                }
            }
            return lines;
        }

        int met(Scene scene, int t) {
            int met = 0;
            for (int line = 0; line < LINES; line++) {
                met |= touching(scene, line, drawnSet(scene, line), t);
            }
            return met;
        }

        int wouldMeet(Scene scene, int t) {
            int met = 0;
            for (int line = 0; line < LINES; line++) {
                met |= touching(scene, line, scene.setOn(line), t);
            }
            return met;
        }

        private static int touching(Scene scene, int line, int set, int t) {
            int touching = 0;
            if (isInSet(set, t)) {
                int dots = scene.dotsOf(t, line);
                for (int u = 0; u < scene.cell(Scene.COUNT); u++) {
                    if (u != t && isInSet(set, u) && (dots & scene.dotsOf(u, line)) != 0) {
                        touching |= 1 << u;
                    }
                }
            }
            return touching;
        }
    }

    /** Which HOLDER each THING gets. */
    private static final class Holders {
        private final int[] holders = new int[MOST_THINGS];
        /** The first LINE below the latest THING of each HOLDER. */
        private final int[] ends = new int[MOST_THINGS];
        private int used;

        /** How many are used. */
        int assign(Scene scene) {
            used = 0;
            for (int y = -SIZE; y < LINES; y++) {
                for (int t = 0; t < scene.cell(Scene.COUNT); t++) {
                    if (scene.field(t, Scene.Y) == y) {
                        holders[t] = occupy(y);
                    }
                }
            }
            return used;
        }

        private int occupy(int y) {
            int h = 0;
            while (h < used && ends[h] > y) {
                h++;
            }
            // Each THING occupies once, so there are never more HOLDERS than THINGS.
            if (h < MOST_THINGS) {
                ends[h] = y + SIZE;
                used = Math.max(used, h + 1);
            }
            return h;
        }

        int holderOf(int t) {
            return holders[t];
        }
    }

    /** On how many LINES each THING is DROPPED, told by going on from a copy of the scene. */
    private static final class Forecast {
        private final Scene ahead = new Scene();
        private final Order order = new Order();
        private final int[] drops = new int[MOST_THINGS];

        void run(Scene from, int frames) {
            ahead.copyFrom(from);
            Arrays.fill(drops, 0);
            for (int i = 0; i < frames; i++) {
                countFrame();
                ahead.goNextFrame();
            }
        }

        private void countFrame() {
            order.arrange(ahead, ahead.cell(Scene.RULE));
            for (int line = 0; line < LINES; line++) {
                int dropped = ahead.setOn(line) & ~order.chosen(ahead, line);
                for (int t = 0; t < MOST_THINGS; t++) {
                    drops[t] += (dropped >>> t) & 1;
                }
            }
        }

        int dropsOf(int t) {
            return drops[t];
        }

        int mostDropped() {
            int most = NONE;
            int mostDrops = 0;
            for (int t = 0; t < MOST_THINGS; t++) {
                if (drops[t] > mostDrops) {
                    most = t;
                    mostDrops = drops[t];
                }
            }
            return most;
        }
    }

    /** How all was ahead of the latest deeds, in a ring, so that the oldest makes room. */
    private static final class History {
        private final int[][] earlier = new int[MOST_UNDONE][Scene.CELLS];
        private int next;
        private int size;

        int size() {
            return size;
        }

        void clear() {
            size = 0;
        }

        void remember(Scene scene) {
            scene.saveTo(earlier[next]);
            next = (next + 1) % MOST_UNDONE;
            size = Math.min(size + 1, MOST_UNDONE);
        }

        /** n is at most size(). */
        void bringBack(Scene scene, int n) {
            next = Math.floorMod(next - n, MOST_UNDONE);
            size -= n;
            scene.loadFrom(earlier[next]);
        }
    }

    /** THE BOOK. */
    private static final class Book {
        private final int[] lines = new int[MOST_ENTRIES];
        private final int[] columns = new int[MOST_ENTRIES];
        private final int[] colours = new int[MOST_ENTRIES];
        private int size;

        int size() {
            return size;
        }

        boolean isFull() {
            return size >= MOST_ENTRIES;
        }

        void clear() {
            size = 0;
        }

        /** Only while it is not full. */
        int add(int line, int column, int colour) {
            lines[size] = line;
            columns[size] = column;
            colours[size] = colour;
            size++;
            return size;
        }

        int lineOf(int k) {
            return lines[k];
        }

        int columnOf(int k) {
            return columns[k];
        }

        int colourOf(int k) {
            return colours[k];
        }
    }

    /** THE SEED and what is drawn by it. */
    private static final class Draws {
        private static final long TIMES = 1103515245L;
        private static final long AND = 12345L;
        private static final long SEEDS = 2147483648L;
        private static final int PASSED_OVER = 65536;

        private int value;

        int value() {
            return value;
        }

        void start(int v) {
            value = v;
        }

        /** Only while the scene is not full. */
        void addThing(Scene scene) {
            int x = below(COLUMNS);
            int y = below(LINES);
            int picture = below(PICTURES);
            int turn = below(TURNS);
            int level = below(LEVELS);
            int colour = below(MOST_COLOUR) + 1;
            scene.add(x, y, picture, turn, level, colour);
        }

        private int below(int n) {
            value = (int) ((value * TIMES + AND) % SEEDS);
            return n > 0 ? value / PASSED_OVER % n : 0;
        }
    }
}
