/**
 * The document's 'Terms' up to section 1, sentence by sentence where they name a bound: one method for each, the sentence
 * above it. The answers are worked out by hand, or dot by dot from the sentence alone.
 */
public final class ScreenEdgesTest {
    private static final int NONE = -1, UNKNOWN = -1000000001, OUTSIDE = -1000000002, FULL = -1000000004;
    private static final Due due = new Due("ScreenEdgesTest");

    public static void main(String[] args) {
        numbersFromNoughtOn();
        setsUpToTheLastBit();
        wholeLinesTellNone();
        screenHasFourCorners();
        picturesAtFirst();
        bitsFromTheLeft();
        twelveThings();
        laterOnesHaveOneLess();
        everyX();
        everyY();
        turnedAtTheRims();
        speedIsNoughtAtFirst();
        onLinesAsFarAsThereAre();
        onEvenWithoutDots();
        limitAndRuleAtFirst();
        asManyAsTheLimitAndOneMore();
        eachLineHasItsOwnLimit();
        ringGoesRound();
        ringIsOfAllThings();
        ringOfNoneAndOfOne();
        levelsInOrder();
        leastLevelIsSeen();
        frontHolesShowWhatIsBehind();
        xGoesRound();
        yGoesRound();
        longWays();
        framesChangeNothingElse();
        framesToTheLastCall();
        due.close();
    }

    private static void is(String call, long got, long want) {
        due.is(call, got, want);
    }

    private static void is(String call, String got, String want) {
        due.is(call, got, want);
    }

    /** What has a number has it from 0 on. */
    private static void numbersFromNoughtOn() {
        DotObjects x = new DotObjects();
        is("first thing", x.put(0, 0, 0, 0, 0, 1), 0);
        is("second thing", x.put(8, 0, 0, 0, 0, 1), 1);
        is("bit 0 for the first", x.drawn(0, 0), 3);
        x.write(0, 0, 2);
        is("first entry", x.told(10), 0);
        is("first line and column", x.dot(0, 0, 1), 0);
        is("first image", x.keep(0), 1);
        is("first picture and row", x.pictureRow(0, 0), 255);
    }

    /** A SET is a whole number, bit k for k. */
    private static void setsUpToTheLastBit() {
        DotObjects x = Look.pile(12, 0, 16);
        x.limit(8);
        is("eight drawn", x.drawn(23, 0), 0x0FF);
        is("the last four dropped", x.drawn(23, 1), 0xF00);
        is("lines 16 .. 23", x.thing(11, 10), 0xFF0000);
        is("would meet all but itself: the last", x.thing(11, 13), 0x7FF);
        is("would meet all but itself: the first", x.thing(0, 13), 0xFFE);
        is("meets the drawn ones", x.thing(0, 12), 0x0FE);
        x.move(11, 0, 23);
        is("line 23 alone", x.thing(11, 10), 0x800000);
        x = Look.pile(12, 0, -7);
        is("line 0 alone", x.thing(11, 10), 1);
    }

    /** Calls that tell a whole line tell -1 instead. */
    private static void wholeLinesTellNone() {
        DotObjects x = Look.pile(1, 0, 0);
        int[][] outside = {{-1, 0}, {24, 0}, {0, -1}, {0, 4}, {-1, 4}, {24, -1},
            {Integer.MIN_VALUE, 0}, {Integer.MAX_VALUE, 0}, {0, Integer.MIN_VALUE}, {0, Integer.MAX_VALUE}};
        for (int[] o : outside) is("line " + o[0] + " " + o[1], x.line(o[0], o[1]), -1L);
        is("the first", x.line(0, 0), 011111111L);
        is("the last", x.line(23, 3), 0L);
    }

    /** THE SCREEN has 24 LINES, 32 COLUMNS. */
    private static void screenHasFourCorners() {
        int[][] corners = {{-7, -7, 0, 0}, {31, -7, 0, 31}, {-7, 23, 23, 0}, {31, 23, 23, 31}};
        for (int[] c : corners) {
            DotObjects x = Look.pile(1, c[0], c[1]);
            is("one dot", x.told(8), 1);
            is("in the corner", x.dot(c[2], c[3], 0), 1);
            is("whole in the corner", x.dot(c[2], c[3], 2), 1);
            is("its thing", x.dot(c[2], c[3], 1), 0);
            is("seen as one", x.thing(0, 8), 1);
            is("its line", Look.at(x, c[2]), Look.lineWith(c[3], "1"));
        }
        DotObjects x = new DotObjects();
        x.limit(8);
        // Things 0 .. 11 fill 4 by 3 places: every dot there is.
        for (int t = 0; t < 12; t++) x.put(t % 4 * 8, t / 4 * 8, 0, 0, 0, t % 7 + 1);
        is("all dots", x.told(8), 24 * 32);
        is("all are seen", x.thing(11, 8), 64);
        is("last line", Look.at(x, 23), "22222222333333334444444455555555");
    }

    /** PICTURES have 8 rows of 8 bits; all 0 at first, but PICTURE 0: all 255. */
    private static void picturesAtFirst() {
        DotObjects x = new DotObjects();
        for (int r = 0; r < 8; r++) {
            is("picture 0 row " + r, x.pictureRow(0, r), 255);
            for (int p = 1; p < 4; p++) is("picture " + p + " row " + r, x.pictureRow(p, r), 0);
        }
        for (int p = 0; p < 4; p++) {
            x = new DotObjects();
            x.put(0, 0, p, 0, 0, 1);
            is("dots of picture " + p, x.told(8), p == 0 ? 64 : 0);
        }
        x = new DotObjects();
        for (int p = 0; p < 4; p++) for (int r = 0; r < 8; r++) x.row(p, r, p * 64 + r * 8 + 7);
        for (int p = 0; p < 4; p++) {
            for (int r = 0; r < 8; r++) is("each row for itself", x.pictureRow(p, r), p * 64 + r * 8 + 7);
        }
    }

    /** Bit 7 is the leftmost. */
    private static void bitsFromTheLeft() {
        for (int bit = 0; bit < 8; bit++) {
            DotObjects x = new DotObjects();
            x.row(3, 7 - bit, 1 << bit);
            x.put(0, 0, 3, 0, 0, 6);
            is("bit " + bit, Look.at(x, 7 - bit), Look.lineWith(7 - bit, "6"));
            is("and no other", x.told(8), 1);
        }
    }

    /** THINGS (12 at most) are numbered as they came. */
    private static void twelveThings() {
        DotObjects x = new DotObjects();
        for (int t = 0; t < 12; t++) {
            is("number", x.put(t, t, 0, 0, 0, 1), t);
            is("things", x.told(0), t + 1);
            is("there is none behind it", x.thing(t + 1, 0), UNKNOWN);
        }
        is("a thirteenth", x.put(0, 0, 0, 0, 0, 1), FULL);
        is("twelve", x.told(0), 12);
        is("the twelfth is as it was", Look.place(x, 11), 1919);
        is("one goes", x.take(3), 11);
        is("room for one", x.put(0, 0, 0, 0, 0, 1), 11);
        is("and no more", x.put(0, 0, 0, 0, 0, 1), FULL);
    }

    /** If one goes, later ones have one number less. */
    private static void laterOnesHaveOneLess() {
        for (int gone = 0; gone < 12; gone++) {
            DotObjects x = new DotObjects();
            for (int t = 0; t < 12; t++) {
                x.put(t - 8, 12 - t, t % 4, t / 4, 3 - t % 4, t % 7 + 1);
                x.speed(t, t - 3, 4 - t);
            }
            String[] before = new String[12];
            for (int t = 0; t < 12; t++) before[t] = Look.thing(x, t);
            is("take " + gone, x.take(gone), 11);
            for (int t = 0; t < 11; t++) is("take " + gone + ", then " + t, Look.thing(x, t), before[t < gone ? t : t + 1]);
            is("the last number is free", x.thing(11, 0), UNKNOWN);
        }
        DotObjects x = Look.pile(1, 0, 0);
        is("the only one goes", x.take(0), 0);
        is("none is left", x.take(0), UNKNOWN);
        is("from 0 on again", x.put(0, 0, 0, 0, 0, 1), 0);
    }

    /** A THING is at X (-8 .. 31): its left dot; what lies beside THE SCREEN is not on it. */
    private static void everyX() {
        DotObjects x = new DotObjects();
        x.row(1, 0, 0b10110111);
        x.put(0, 5, 1, 0, 0, 4);
        for (int at = -8; at <= 31; at++) {
            is("move to " + at, x.move(0, at, 5), 8);
            is("x " + at, x.thing(0, 0), at + 8);
            is("line with x " + at, Look.at(x, 5), Look.lineWith(at, "40440444"));
        }
        is("x -9", x.move(0, -9, 5), OUTSIDE);
        is("x 32", x.move(0, 32, 5), OUTSIDE);
    }

    /** A THING is at Y (-8 .. 23): its upper dot; what lies above or below THE SCREEN is not on it. */
    private static void everyY() {
        DotObjects x = new DotObjects();
        for (int r = 0; r < 8; r++) x.row(1, r, r + 1);
        x.put(24, 0, 1, 0, 0, 1);
        for (int at = -8; at <= 23; at++) {
            x.move(0, 24, at);
            is("y " + at, x.thing(0, 1), at + 8);
            for (int r = 0; r < 8; r += 7) {
                boolean isThere = at + r >= 0 && at + r < 24;
                if (isThere) is("y " + at + " row " + r, x.line(at + r, 3), r == 0 ? 01 : 01000);
            }
            int dots = 0;
            for (int r = 0; r < 8; r++) if (at + r >= 0 && at + r < 24) dots += Integer.bitCount(r + 1);
            is("dots with y " + at, x.told(8), dots);
        }
        is("y -9", x.move(0, 24, -9), OUTSIDE);
        is("y 24", x.move(0, 24, 24), OUTSIDE);
    }

    /** TURN (1: mirrored left and right, 2: upside down, 3: both, 0), also where but a part is on THE SCREEN. */
    private static void turnedAtTheRims() {
        String[] first = {"70700000", "00000707", "00000077", "77000000"};
        String[] last = {"00000077", "77000000", "70700000", "00000707"};
        int[] columns = {-8, -7, -5, -2, 0, 24, 26, 29, 31};
        for (int turn = 0; turn < 4; turn++) {
            for (int column : columns) {
                DotObjects x = new DotObjects();
                x.row(2, 0, 0b10100000);
                x.row(2, 7, 0b00000011);
                x.put(column, 16, 2, turn, 0, 7);
                is("turn " + turn + " upper row", Look.at(x, 16), Look.lineWith(column, first[turn]));
                is("turn " + turn + " lower row", Look.at(x, 23), Look.lineWith(column, last[turn]));
                x.move(0, column, -7);
                is("turn " + turn + " lower row on line 0", Look.at(x, 0), Look.lineWith(column, last[turn]));
                x.move(0, column, 23);
                is("turn " + turn + " upper row on line 23", Look.at(x, 23), Look.lineWith(column, first[turn]));
            }
        }
    }

    /** DX, DY (-8 .. 8; 0 at first), for those too that get the number of one that is gone. */
    private static void speedIsNoughtAtFirst() {
        DotObjects x = Look.pile(12, 0, 0);
        for (int t = 0; t < 12; t++) {
            is("at first", Look.speed(x, t), 808);
            x.speed(t, 8, -8);
            is("then", Look.speed(x, t), 1600);
        }
        x.take(11);
        x.take(0);
        x.put(0, 0, 0, 0, 0, 1);
        is("put anew", Look.speed(x, 10), 808);
        x.drift(1);
        is("drawn anew", Look.speed(x, 11), 808);
        is("the others go on", Look.speed(x, 9), 1600);
    }

    /** It is ON the LINES Y to Y and 7 (as far as there are such). */
    private static void onLinesAsFarAsThereAre() {
        DotObjects x = Look.pile(1, 0, 0);
        for (int y = -8; y <= 23; y++) {
            int lines = 0;
            for (int line = 0; line < 24; line++) if (line >= y && line <= y + 7) lines++;
            is("lines of y " + y, x.move(0, 0, y), lines);
        }
        int[] ys = {-8, -7, -1, 0, 1, 15, 16, 17, 22, 23};
        for (int y : ys) {
            x = Look.pile(1, 0, y);
            for (int line = 0; line < 24; line++) {
                is("y " + y + " on line " + line, x.drawn(line, 0), line >= y && line <= y + 7 ? 1 : 0);
            }
        }
    }

    /** It is ON its LINES even where its rows are 0 (and even where no COLUMN of it is on THE SCREEN). */
    private static void onEvenWithoutDots() {
        DotObjects x = new DotObjects();
        x.limit(1);
        x.put(0, 0, 1, 0, 0, 1);
        x.put(0, 0, 0, 0, 0, 2);
        is("the empty one is drawn", x.drawn(0, 0), 1);
        is("the other is dropped", x.drawn(0, 1), 2);
        is("nothing is seen", x.told(8), 0);
        x.move(0, -8, 0);
        is("beside the screen it is on its lines", x.drawn(7, 1), 2);
        x.move(0, 0, -8);
        is("above the screen it is on none", x.drawn(0, 0), 2);
        is("so nothing is dropped", x.thing(1, 10), 0);
        x.move(0, 0, -7);
        is("on line 0 alone", x.thing(1, 10), 1);
        x.move(0, 0, 7);
        is("on line 7 still", x.thing(1, 10), 128);
        x.move(0, 0, 8);
        is("not above its y", x.thing(1, 10), 0);
    }

    /** LIMIT (1 .. 8; 4 at first); RULE (0 .. 3; 0 at first); FRAME (0 at first). */
    private static void limitAndRuleAtFirst() {
        DotObjects x = Look.pile(5, 0, 0);
        is("limit", x.told(1), 4);
        is("rule", x.told(2), 0);
        is("frame", x.told(3), 0);
        is("four of five are drawn, by number", x.drawn(0, 0), 15);
        for (int v = 1; v <= 8; v++) {
            x.limit(v);
            is("limit " + v, x.told(1), v);
        }
        for (int v = 0; v <= 3; v++) {
            x.rule(v);
            is("rule " + v, x.told(2), v);
        }
        int[] outsideLimit = {0, 9, -1, Integer.MIN_VALUE, Integer.MAX_VALUE};
        for (int v : outsideLimit) is("limit " + v, x.limit(v), OUTSIDE);
        int[] outsideRule = {-1, 4, Integer.MIN_VALUE, Integer.MAX_VALUE};
        for (int v : outsideRule) is("rule " + v, x.rule(v), OUTSIDE);
        is("limit still", x.told(1), 8);
        is("rule still", x.told(2), 3);
    }

    /** The first of them, LIMIT at most, are DRAWN there, the others DROPPED. */
    private static void asManyAsTheLimitAndOneMore() {
        for (int rule = 0; rule < 4; rule++) {
            for (int v = 1; v <= 8; v++) {
                DotObjects x = Look.pile(v, 0, 0);
                x.rule(rule);
                x.limit(v);
                int all = (1 << v) - 1;
                is("as many as the limit " + v, x.drawn(0, 0), all);
                is("none dropped", x.drawn(0, 1), 0);
                x.put(0, 0, 0, 0, 0, 7);
                is("one more is dropped", x.drawn(0, 1), rule == 1 ? 1 : 1 << v);
                is("the others are drawn", x.drawn(0, 0), rule == 1 ? all << 1 : all);
                is("on eight lines", x.thing(rule == 1 ? 0 : v, 10), 255);
            }
        }
    }

    /** On each LINE those THINGS that are ON it. */
    private static void eachLineHasItsOwnLimit() {
        DotObjects x = new DotObjects();
        x.limit(1);
        x.put(0, 0, 0, 0, 0, 1);
        x.put(8, 7, 0, 0, 0, 2);
        x.put(16, 14, 0, 0, 0, 3);
        // Thing 1 is dropped on line 7, where thing 0 is; thing 2 on line 14, where thing 1 is.
        is("thing 0", x.thing(0, 10), 0);
        is("thing 1", x.thing(1, 10), 1 << 7);
        is("thing 2", x.thing(2, 10), 1 << 14);
        x.rule(1);
        is("thing 0 from the last on", x.thing(0, 10), 1 << 7);
        is("thing 1 from the last on", x.thing(1, 10), 1 << 14);
        is("thing 2 from the last on", x.thing(2, 10), 0);
    }

    /** By RULE 2 in a ring from THING (FRAME left over by how many there are) on. */
    private static void ringGoesRound() {
        for (int n = 2; n <= 12; n++) {
            DotObjects x = Look.pile(n, 0, 0);
            x.rule(2);
            x.limit(1);
            for (int frame = 0; frame <= 2 * n; frame++) {
                is("ring of " + n + " in frame " + frame, x.drawn(0, 0), 1 << (frame % n));
                x.frame(1);
            }
        }
        DotObjects x = Look.pile(12, 0, 0);
        x.rule(2);
        x.limit(8);
        x.frame(11);
        is("over the end of the ring", x.drawn(0, 0), 0x87F);
        x.frame(1);
        is("round", x.drawn(0, 0), 0x0FF);
        x.take(11);
        // FRAME 12 left over by 11 is 1.
        is("another remainder", x.drawn(0, 0), 0x1FE);
        x.undo(1);
        is("and back", x.drawn(0, 0), 0x0FF);
    }

    /** How many there are: all THINGS, those that are not ON the LINE too. */
    private static void ringIsOfAllThings() {
        DotObjects x = Look.pile(2, 0, 0);
        x.put(0, -8, 0, 0, 0, 1);
        x.put(0, 16, 0, 0, 0, 1);
        x.rule(2);
        x.limit(1);
        int[] first = {0, 1, 0, 0, 0, 1};
        for (int t : first) {
            is("in frame " + x.told(3), x.drawn(0, 0), 1 << t);
            x.frame(1);
        }
    }

    /** RULE 2 where nothing can be left over, and where all is. */
    private static void ringOfNoneAndOfOne() {
        DotObjects x = new DotObjects();
        is("rule 2 without things", x.rule(2), 0);
        is("a frame without things", x.frame(1), 1);
        is("none drawn", x.drawn(0, 0), 0);
        is("none worst", x.worst(40), NONE);
        is("best rule", x.told(5), 0);
        x.put(0, 0, 0, 0, 0, 1);
        x.limit(1);
        for (int k = 0; k < 3; k++) {
            is("one of one", x.drawn(0, 0), 1);
            x.frame(40);
        }
    }

    /** By RULE 3 by LEVEL, of like ones by number. */
    private static void levelsInOrder() {
        DotObjects x = new DotObjects();
        int[] levels = {3, 2, 1, 0, 3, 2, 1, 0};
        int[] order = {3, 7, 2, 6, 1, 5, 0, 4};
        for (int level : levels) x.put(0, 0, 0, 0, level, 1);
        x.rule(3);
        int set = 0;
        for (int v = 1; v <= 8; v++) {
            set |= 1 << order[v - 1];
            x.limit(v);
            is("the first " + v, x.drawn(0, 0), set);
        }
    }

    /** The one of least LEVEL, of like ones the least number, is SEEN there; 0: none. */
    private static void leastLevelIsSeen() {
        DotObjects x = new DotObjects();
        for (int level = 3; level >= 0; level--) {
            is("nothing there", x.dot(0, 8, 0), 0);
            is("nobody there", x.dot(0, 8, 1), NONE);
            int t = x.put(0, 0, 0, 0, level, level + 1);
            is("level " + level + " is seen", x.dot(0, 7, 1), t);
            is("its colour", x.dot(0, 7, 0), level + 1);
        }
        x = Look.pile(8, 0, 0);
        x.limit(8);
        is("of like ones the least number", x.dot(0, 0, 1), 0);
        for (int rule = 0; rule < 4; rule++) {
            x.rule(rule);
            is("whatever the rule is that draws them", x.dot(0, 0, 1), 0);
        }
        x.turn(0, 0, 1);
        is("now the second", x.dot(0, 0, 1), 1);
        x.rule(1);
        x.limit(1);
        is("of those that are drawn", x.dot(0, 0, 1), 7);
    }

    /** Of THINGS that HAVE it: where the one in front has no bit, the one behind is SEEN. */
    private static void frontHolesShowWhatIsBehind() {
        DotObjects x = new DotObjects();
        x.row(1, 0, 0b10000001);
        x.put(0, 0, 0, 0, 3, 2);
        x.put(0, 0, 1, 0, 0, 5);
        is("front and behind", Look.at(x, 0), Look.lineWith(0, "52222225"));
        is("below all is behind", Look.at(x, 1), Look.lineWith(0, "22222222"));
    }

    /** X left over by 40 (-8 .. 31 again). */
    private static void xGoesRound() {
        for (int at = -8; at <= 31; at++) {
            for (int dx = -8; dx <= 8; dx++) {
                DotObjects x = Look.pile(1, at, 3);
                x.speed(0, dx, 0);
                x.frame(1);
                int then = at + dx > 31 ? at + dx - 40 : at + dx < -8 ? at + dx + 40 : at + dx;
                is("x " + at + " by " + dx, Look.place(x, 0), (then + 8) * 100 + 11);
            }
        }
    }

    /** Y left over by 32 (-8 .. 23). */
    private static void yGoesRound() {
        for (int at = -8; at <= 23; at++) {
            for (int dy = -8; dy <= 8; dy++) {
                DotObjects x = Look.pile(1, 3, at);
                x.speed(0, 0, dy);
                x.frame(1);
                int then = at + dy > 23 ? at + dy - 32 : at + dy < -8 ? at + dy + 32 : at + dy;
                is("y " + at + " by " + dy, Look.place(x, 0), 1100 + then + 8);
            }
        }
    }

    /** n times NEXT FRAME: as many frames one by one. */
    private static void longWays() {
        int[][] speeds = {{8, 8}, {-8, -8}, {1, -1}, {-7, 5}, {3, -8}};
        for (int[] s : speeds) {
            DotObjects x = Look.pile(1, 31, -8), y = Look.pile(1, 31, -8);
            x.speed(0, s[0], s[1]);
            y.speed(0, s[0], s[1]);
            x.frame(40);
            for (int k = 0; k < 40; k++) y.frame(1);
            is("forty at once", Look.place(x, 0), Look.place(y, 0));
            is("frames", y.told(3), x.told(3));
        }
        DotObjects x = Look.pile(1, 31, 23);
        x.speed(0, 8, 8);
        x.frame(5);
        is("five by 8 are a round of X, not of Y", Look.place(x, 0), 3907);
        x.frame(3);
        is("eight by 8 are two rounds of Y, not of X", Look.place(x, 0), 2331);
        x.frame(12);
        is("twenty by 8 are rounds of both", Look.place(x, 0), 3931);
    }

    /** FRAME is 1 more, each THING goes: nothing else is otherwise behind it. */
    private static void framesChangeNothingElse() {
        DotObjects x = new DotObjects();
        for (int p = 0; p < 4; p++) for (int r = 0; r < 8; r++) x.row(p, r, 250 - p * 8 - r);
        x.limit(8);
        x.rule(3);
        x.write(0, 0, 7);
        x.seed(6);
        for (int t = 0; t < 11; t++) x.put(t, t, t % 4, t / 4, 3 - t % 4, t % 7 + 1);
        x.speed(10, 8, -8);
        x.frame(1);
        for (int p = 0; p < 4; p++) for (int r = 0; r < 8; r++) is("row", x.pictureRow(p, r), 250 - p * 8 - r);
        for (int t = 0; t < 10; t++) {
            is("thing " + t + " stands", Look.thing(x, t), (t + 8) + " " + (t + 8) + " " + t % 4 + " " + t / 4 + " " + (3 - t % 4) + " " + (t % 7 + 1) + " 8 8");
        }
        is("thing 10 goes", Look.thing(x, 10), "26 10 2 2 1 4 16 0");
        is("there is none behind it", x.thing(11, 0), UNKNOWN);
        is("limit, rule, frame", x.told(1) * 100 + x.told(2) * 10 + x.told(3), 831);
        is("the book", x.told(9), 1);
        is("the seed", x.seed(0), 6);
        is("the next to be put stands still", Look.speed(x, x.put(0, 0, 0, 0, 0, 1)), 808);
    }

    /** FRAME is 1 more, up to the last of 512 calls. */
    private static void framesToTheLastCall() {
        DotObjects x = new DotObjects();
        for (int t = 0; t < 7; t++) x.put(0, 0, 0, 0, 0, 1);
        x.rule(2);
        x.limit(1);
        int frame = 0;
        for (int call = 10; call <= 510; call++) frame = x.frame(40);
        is("frame", frame, 501 * 40);
        // 20040 left over by 7 is 6.
        is("ring", x.drawn(0, 0), 1 << 6);
        is("what can be undone", x.told(11), 20);
    }
}
