/** Each promise by itself, with answers worked out by hand from the document: ordinary calls, edges, refusals. */
public final class PromisesTest {
    private static final int NONE = -1, UNKNOWN = -1000000001, OUTSIDE = -1000000002, NOT = -1000000003, FULL = -1000000004;
    private static final int LEAST = Integer.MIN_VALUE, MOST = Integer.MAX_VALUE;
    private static final Due due = new Due("PromisesTest");

    public static void main(String[] args) {
        newObject();
        toldTells();
        thingTells();
        turnsTell();
        dotTells();
        lineTells();
        drawnTells();
        rulesChoose();
        rows();
        puts();
        moves();
        turnsAndLevels();
        speeds();
        takes();
        limits();
        rules();
        frames();
        drifts();
        undoes();
        leavesOut();
        worsts();
        books();
        seeds();
        images();
        holders();
        meets();
        missingIsByColour();
        due.close();
    }

    private static void is(String call, long got, long want) {
        due.is(call, got, want);
    }

    /** Things 0 .. n-1 on lines 0 .. 7, side by side from column 0, four apart, colours 1 .. 7 and again, level 0. */
    private static DotObjects rowOfThings(int n) {
        DotObjects x = new DotObjects();
        for (int t = 0; t < n; t++) x.put(t * 4 % 32, 0, 0, 0, 0, t % 7 + 1);
        return x;
    }

    private static void newObject() {
        DotObjects x = new DotObjects();
        long[] want = {0, 4, 0, 0, 0, 0, 1, 0, 0, 0, NONE, 0};
        for (int what = 0; what < want.length; what++) is("new: told " + what, x.told(what), want[what]);
        for (int p = 0; p < 4; p++) {
            for (int r = 0; r < 8; r++) is("new: pictureRow " + p + " " + r, x.pictureRow(p, r), p == 0 ? 255 : 0);
        }
        for (int line = 0; line < 24; line++) {
            is("new: drawn", x.drawn(line, 0), 0);
            for (int part = 0; part < 4; part++) is("new: line", x.line(line, part), 0);
        }
        is("new: thing", x.thing(0, 0), UNKNOWN);
        is("new: worst", x.worst(40), NONE);
        is("new: seed", x.seed(0), 0);
        is("new: goBack 0", x.goBack(0), NOT);
        is("new: goBack 1", x.goBack(1), NOT);
    }

    private static void toldTells() {
        DotObjects x = rowOfThings(6);
        x.write(0, 0, 1);
        x.write(0, 31, 7);
        x.rule(1);
        // By rule 1 the things 5, 4, 3, 2 are drawn, of columns 8 .. 27: 0 .. 7 are missing, 8 .. 11 are of another colour.
        long[] want = {6, 4, 1, 0, 96, 0, 6, 6, 160, 2, 0, 7};
        for (int what = 0; what < want.length; what++) is("told " + what, x.told(what), want[what]);
        is("told -1", x.told(-1), OUTSIDE);
        is("told 12", x.told(12), OUTSIDE);
        is("told least", x.told(LEAST), OUTSIDE);
        is("told most", x.told(MOST), OUTSIDE);
    }

    private static void thingTells() {
        DotObjects x = new DotObjects();
        x.put(-8, -8, 3, 2, 1, 7);
        x.put(31, 23, 0, 1, 3, 4);
        x.speed(1, -8, 8);
        long[] first = {0, 0, 3, 2, 1, 7, 8, 8, 0, 0, 0, 0, 0, 0};
        long[] second = {39, 31, 0, 1, 3, 4, 0, 16, 1, 0, 0, 0, 0, 0};
        for (int what = 0; what < 14; what++) {
            is("thing 0 " + what, x.thing(0, what), first[what]);
            is("thing 1 " + what, x.thing(1, what), second[what]);
        }
        x = rowOfThings(3);
        x.limit(2);
        is("seen", x.thing(0, 8), 64);
        is("covered", x.thing(1, 9), 32);
        is("seen in part", x.thing(1, 8), 32);
        is("seen, dropped", x.thing(2, 8), 0);
        is("covered, dropped", x.thing(2, 9), 0);
        is("dropped lines", x.thing(2, 10), 255);
        x.move(2, 8, 20);
        x.limit(1);
        x.move(0, 0, 16);
        is("dropped lines below", x.thing(2, 10), 0xF00000);
        is("unknown first", x.thing(3, 99), UNKNOWN);
        is("unknown -1", x.thing(-1, 0), UNKNOWN);
        is("outside 14", x.thing(0, 14), OUTSIDE);
        is("outside -1", x.thing(0, -1), OUTSIDE);
    }

    private static void turnsTell() {
        for (int turn = 0; turn < 4; turn++) {
            DotObjects x = new DotObjects();
            x.row(1, 0, 128);
            x.row(1, 6, 7);
            x.put(0, 0, 1, turn, 0, 1);
            boolean upside = turn >= 2, mirrored = turn % 2 == 1;
            is("turn " + turn + " first", x.line(upside ? 7 : 0, 0), mirrored ? 1 : 010000000);
            is("turn " + turn + " none", x.line(upside ? 0 : 7, 0), 0);
            is("turn " + turn + " seventh", x.line(upside ? 1 : 6, 0), mirrored ? 011100000 : 0111);
        }
    }

    private static void dotTells() {
        DotObjects x = new DotObjects();
        x.limit(1);
        x.put(0, 0, 0, 0, 1, 3);
        x.put(4, 0, 0, 0, 0, 5);
        is("colour", x.dot(0, 4, 0), 3);
        is("seen", x.dot(0, 4, 1), 0);
        is("whole", x.dot(0, 4, 2), 5);
        is("none there", x.dot(0, 8, 0), 0);
        is("nobody seen", x.dot(0, 8, 1), NONE);
        is("whole there", x.dot(0, 8, 2), 5);
        x.limit(2);
        is("in front", x.dot(7, 7, 1), 1);
        x.turn(0, 0, 0);
        is("like levels: least number", x.dot(7, 7, 1), 0);
        is("below", x.dot(8, 7, 1), NONE);
        is("last dot", x.dot(23, 31, 0), 0);
        int[][] outside = {{-1, 0, 0}, {24, 0, 0}, {0, -1, 0}, {0, 32, 0}, {0, 0, -1}, {0, 0, 3}, {LEAST, MOST, 0}};
        for (int[] o : outside) is("dot outside", x.dot(o[0], o[1], o[2]), OUTSIDE);
    }

    private static void lineTells() {
        DotObjects x = new DotObjects();
        x.put(6, 23, 0, 0, 0, 7);
        is("line 23 part 0", x.line(23, 0), 077);
        is("line 23 part 1", x.line(23, 1), 077777700);
        is("line 23 part 2", x.line(23, 2), 0);
        is("line 22 part 0", x.line(22, 0), 0);
        x.put(31, 0, 0, 0, 0, 2);
        x.put(-7, 0, 0, 0, 0, 4);
        is("rightmost", x.line(0, 3), 2);
        is("leftmost", x.line(0, 0), 040000000);
        x.row(1, 0, 255);
        x.put(24, 10, 1, 0, 0, 7);
        is("all of it", x.line(10, 3), 077777777);
        int[][] outside = {{-1, 0}, {24, 0}, {0, -1}, {0, 4}, {LEAST, 0}, {0, MOST}};
        for (int[] o : outside) is("line outside", x.line(o[0], o[1]), -1);
    }

    private static void drawnTells() {
        DotObjects x = rowOfThings(6);
        is("drawn", x.drawn(7, 0), 15);
        is("dropped", x.drawn(7, 1), 48);
        is("drawn below", x.drawn(8, 0), 0);
        is("dropped below", x.drawn(8, 1), 0);
        x = new DotObjects();
        x.limit(1);
        x.put(-8, 0, 1, 0, 0, 1);
        x.put(0, -8, 0, 0, 0, 1);
        x.put(0, 0, 0, 0, 0, 1);
        is("on a line though without dots", x.drawn(0, 0), 1);
        is("above the screen is on no line", x.drawn(0, 1), 4);
        int[][] outside = {{-1, 0}, {24, 0}, {0, -1}, {0, 2}, {MOST, 0}, {0, LEAST}};
        for (int[] o : outside) is("drawn outside", x.drawn(o[0], o[1]), OUTSIDE);
    }

    private static void rulesChoose() {
        DotObjects x = new DotObjects();
        int[] levels = {3, 1, 2, 1, 0};
        for (int level : levels) x.put(0, 0, 0, 0, level, 1);
        x.limit(2);
        is("rule 0", x.drawn(0, 0), 3);
        x.rule(1);
        is("rule 1", x.drawn(0, 0), 24);
        x.rule(3);
        is("rule 3", x.drawn(0, 0), 18);
        x.limit(3);
        is("rule 3, like levels", x.drawn(0, 0), 26);
        x.limit(2);
        x.rule(2);
        int[] ring = {3, 6, 12, 24, 17, 3};
        for (int frame = 0; frame < ring.length; frame++) {
            is("rule 2 in frame " + frame, x.drawn(0, 0), ring[frame]);
            x.frame(1);
        }
        // FRAME is 6 now, of five things: from thing 1 on; those not on the line are passed over, but counted in the ring.
        x.move(1, 0, 20);
        is("rule 2 passes over", x.drawn(0, 0), 12);
        is("rule 2 there", x.drawn(20, 0), 2);
        x.frame(1);
        is("rule 2 counts all things, not those on the line", x.drawn(0, 0), 12);
    }

    private static void rows() {
        DotObjects x = new DotObjects();
        is("row", x.row(0, 7, 0), 255);
        is("row again", x.row(0, 7, 129), 0);
        is("pictureRow", x.pictureRow(0, 7), 129);
        is("row 3", x.row(3, 0, 255), 0);
        is("pictureRow 3", x.pictureRow(3, 0), 255);
        is("deeds", x.told(11), 3);
        is("row unknown", x.row(4, 9, 999), UNKNOWN);
        is("row unknown -1", x.row(-1, 0, 0), UNKNOWN);
        int[][] outside = {{-1, 0}, {8, 0}, {0, -1}, {0, 256}, {LEAST, MOST}};
        for (int[] o : outside) is("row outside", x.row(0, o[0], o[1]), OUTSIDE);
        is("pictureRow unknown", x.pictureRow(4, 9), UNKNOWN);
        is("pictureRow unknown -1", x.pictureRow(-1, 0), UNKNOWN);
        is("pictureRow outside", x.pictureRow(0, 8), OUTSIDE);
        is("pictureRow outside -1", x.pictureRow(3, -1), OUTSIDE);
        is("refused is no deed", x.told(11), 3);
    }

    private static void puts() {
        DotObjects x = new DotObjects();
        is("put", x.put(-8, -8, 0, 0, 0, 1), 0);
        is("put", x.put(31, 23, 3, 3, 3, 7), 1);
        x.speed(1, 8, 8);
        x.take(1);
        is("put anew", x.put(5, 6, 3, 3, 3, 7), 1);
        is("put anew stands still", x.thing(1, 6) * 100 + x.thing(1, 7), 808);
        int[][] outside = {{-9, 0, 0, 0, 0, 1}, {32, 0, 0, 0, 0, 1}, {0, -9, 0, 0, 0, 1}, {0, 24, 0, 0, 0, 1},
            {0, 0, 0, -1, 0, 1}, {0, 0, 0, 4, 0, 1}, {0, 0, 0, 0, -1, 1}, {0, 0, 0, 0, 4, 1}, {0, 0, 0, 0, 0, 0}, {0, 0, 0, 0, 0, 8}};
        for (int[] o : outside) is("put outside", x.put(o[0], o[1], o[2], o[3], o[4], o[5]), OUTSIDE);
        is("put unknown", x.put(0, 0, 4, 0, 0, 1), UNKNOWN);
        is("put unknown first", x.put(99, 99, -1, 9, 9, 9), UNKNOWN);
        for (int t = 2; t < 12; t++) is("put " + t, x.put(0, 0, 0, 0, 0, 1), t);
        is("put full", x.put(0, 0, 0, 0, 0, 1), FULL);
        is("outside ahead of full", x.put(0, 0, 0, 0, 0, 0), OUTSIDE);
        is("unknown ahead of full", x.put(0, 0, 4, 0, 0, 1), UNKNOWN);
        is("still twelve", x.told(0), 12);
        x.take(0);
        is("room again", x.put(0, 0, 0, 0, 0, 1), 11);
    }

    private static void moves() {
        DotObjects x = rowOfThings(1);
        int[][] cases = {{-8, 0}, {-7, 1}, {-1, 7}, {0, 8}, {16, 8}, {17, 7}, {23, 1}};
        for (int[] c : cases) is("move to line " + c[0], x.move(0, 31, c[0]), c[1]);
        is("moved", x.thing(0, 0) * 100 + x.thing(0, 1), 3931);
        is("move unknown", x.move(1, 99, 99), UNKNOWN);
        is("move unknown -1", x.move(-1, 0, 0), UNKNOWN);
        int[][] outside = {{-9, 0}, {32, 0}, {0, -9}, {0, 24}};
        for (int[] o : outside) is("move outside", x.move(0, o[0], o[1]), OUTSIDE);
        is("as it was", x.thing(0, 0) * 100 + x.thing(0, 1), 3931);
    }

    private static void turnsAndLevels() {
        DotObjects x = rowOfThings(2);
        is("turn behind", x.turn(0, 0, 1), 32);
        is("turn in front", x.turn(0, 3, 0), 64);
        is("turn", x.thing(0, 3) * 10 + x.thing(0, 4), 30);
        is("turn unknown", x.turn(2, 9, 9), UNKNOWN);
        int[][] outside = {{-1, 0}, {4, 0}, {0, -1}, {0, 4}};
        for (int[] o : outside) is("turn outside", x.turn(0, o[0], o[1]), OUTSIDE);
        is("turn as it was", x.thing(0, 3) * 10 + x.thing(0, 4), 30);
    }

    private static void speeds() {
        DotObjects x = rowOfThings(1);
        is("speed", x.speed(0, 8, -8), 1);
        is("speed told", x.thing(0, 6) * 100 + x.thing(0, 7), 1600);
        is("speed moves nothing", x.thing(0, 0), 8);
        is("speed unknown", x.speed(1, 9, 9), UNKNOWN);
        int[][] outside = {{-9, 0}, {9, 0}, {0, -9}, {0, 9}};
        for (int[] o : outside) is("speed outside", x.speed(0, o[0], o[1]), OUTSIDE);
    }

    private static void takes() {
        DotObjects x = rowOfThings(12);
        is("take the last", x.take(11), 11);
        is("take the first", x.take(0), 10);
        is("one number less", x.thing(0, 5), 2);
        is("and the others", x.thing(9, 5), 4);
        is("none there", x.thing(10, 5), UNKNOWN);
        is("take unknown", x.take(10), UNKNOWN);
        is("take unknown -1", x.take(-1), UNKNOWN);
        for (int left = 9; left >= 0; left--) is("take", x.take(0), left);
        is("take none", x.take(0), UNKNOWN);
    }

    private static void limits() {
        DotObjects x = rowOfThings(8);
        // Thing 7 is on columns 28 .. 31 alone, where thing 6 is ahead of it.
        is("limit 8", x.limit(8), 0);
        for (int v = 7; v >= 1; v--) is("limit " + v, x.limit(v), 32 * (7 - v));
        is("limit told", x.told(1), 1);
        is("limit 0", x.limit(0), OUTSIDE);
        is("limit 9", x.limit(9), OUTSIDE);
        is("limit least", x.limit(LEAST), OUTSIDE);
        is("limit as it was", x.told(1), 1);
        is("enough", x.told(6), 8);
        is("enough above the most limit", rowOfThings(12).told(6), 12);
    }

    private static void rules() {
        DotObjects x = rowOfThings(6);
        x.turn(5, 0, 3);
        x.limit(5);
        is("rule 0", x.rule(0), 32);
        // Columns 0 .. 3 of thing 0 are empty then, 4 .. 7 are thing 1's.
        is("rule 1", x.rule(1), 64);
        is("rule 2", x.rule(2), 32);
        is("rule 3", x.rule(3), 32);
        is("best of like ones", x.told(5), 0);
        x.put(0, 0, 1, 0, 0, 1);
        is("rule 0 draws nothing that has no dots", x.rule(0), 32);
        is("rule 1 does", x.rule(1), 96);
        is("rule told", x.told(2), 1);
        is("rule -1", x.rule(-1), OUTSIDE);
        is("rule 4", x.rule(4), OUTSIDE);
        is("rule as it was", x.told(2), 1);
        x = new DotObjects();
        x.put(0, 0, 1, 0, 3, 1);
        x.put(0, 0, 0, 0, 0, 2);
        x.limit(1);
        is("best is 1, of 1 and 3", x.told(5), 1);
        is("missing by rule 0", x.told(4), 64);
    }

    private static void frames() {
        DotObjects x = rowOfThings(3);
        x.speed(0, -8, -8);
        x.speed(1, 8, 8);
        is("frame", x.frame(1), 1);
        is("left and up", x.thing(0, 0) * 100 + x.thing(0, 1), 0);
        x.frame(1);
        is("round", x.thing(0, 0) * 100 + x.thing(0, 1), 3224);
        is("right and down", x.thing(1, 0) * 100 + x.thing(1, 1), 2824);
        x.frame(2);
        is("round the other way", x.thing(1, 0) * 100 + x.thing(1, 1), 408);
        is("forty", x.frame(40), 44);
        is("a full round", x.thing(1, 0) * 100 + x.thing(1, 1), 408);
        is("one that stands", x.thing(2, 0) * 100 + x.thing(2, 1), 1608);
        is("one deed each", x.told(11), 9);
        is("frame 0", x.frame(0), OUTSIDE);
        is("frame 41", x.frame(41), OUTSIDE);
        is("frame least", x.frame(LEAST), OUTSIDE);
        is("frame told", x.told(3), 44);
        is("undone whole", x.undo(1), 3);
        is("frame again", x.told(3), 4);
    }

    private static void drifts() {
        DotObjects x = new DotObjects();
        long seed = 0;
        int[] of = {32, 24, 4, 4, 4, 7};
        int[][] want = new int[12][6];
        for (int[] thing : want) {
            for (int k = 0; k < 6; k++) {
                seed = (seed * 1103515245L + 12345L) % (1L << 31);
                thing[k] = (int) (seed / 65536 % of[k]) + (k < 2 ? 8 : k == 5 ? 1 : 0);
            }
        }
        is("drift", x.drift(2), 2);
        is("two deeds", x.told(11), 2);
        is("drift, while there is room", x.drift(12), 12);
        is("twelve deeds", x.told(11), 12);
        for (int t = 0; t < 12; t++) {
            for (int k = 0; k < 6; k++) is("drifted " + t + " " + k, x.thing(t, k), want[t][k]);
            is("drifted stands " + t, x.thing(t, 6) * 100 + x.thing(t, 7), 808);
        }
        is("drift without room", x.drift(1), 12);
        is("no deed", x.told(11), 12);
        is("nor a draw", x.seed(7), seed);
        is("drift 0", x.drift(0), OUTSIDE);
        is("drift 13", x.drift(13), OUTSIDE);
        is("undo one time", x.undo(1), 11);
        is("undo more", x.undo(10), 1);
        is("the seed stays", x.seed(0), 7);
    }

    private static void undoes() {
        DotObjects x = new DotObjects();
        x.row(2, 2, 77);
        x.put(1, 2, 2, 1, 2, 3);
        x.move(0, 3, 4);
        x.turn(0, 2, 1);
        x.speed(0, 5, 6);
        x.limit(7);
        x.rule(3);
        x.frame(2);
        x.take(0);
        is("nine deeds", x.told(11), 9);
        is("undo 10", x.undo(10), NOT);
        is("undo 0", x.undo(0), OUTSIDE);
        is("undo 21", x.undo(21), OUTSIDE);
        is("undo take", x.undo(1), 1);
        is("moved", x.thing(0, 0) * 100 + x.thing(0, 1), 2124);
        is("undo frame", x.undo(1), 1);
        is("frame", x.told(3), 0);
        is("ahead of it", x.thing(0, 0) * 100 + x.thing(0, 1), 1112);
        x.undo(1);
        is("rule", x.told(2), 0);
        x.undo(1);
        is("limit", x.told(1), 4);
        x.undo(1);
        is("speed", x.thing(0, 6) * 100 + x.thing(0, 7), 808);
        x.undo(1);
        is("turn", x.thing(0, 3) * 10 + x.thing(0, 4), 12);
        x.undo(1);
        is("move", x.thing(0, 0) * 100 + x.thing(0, 1), 910);
        is("put", x.undo(1), 0);
        is("row still", x.pictureRow(2, 2), 77);
        x.undo(1);
        is("row", x.pictureRow(2, 2), 0);
        is("nothing left", x.undo(1), NOT);
        for (int v = 0; v < 50; v++) x.row(1, 0, v);
        is("twenty are kept", x.told(11), 20);
        is("undo all", x.undo(20), 0);
        is("as it was", x.pictureRow(1, 0), 29);
        is("and no more", x.undo(1), NOT);
        x.row(1, 0, 9);
        x.row(1, 0, 9);
        is("deeds that change nothing are deeds", x.told(11), 2);
        x.write(0, 0, 5);
        x.seed(3);
        is("neither the book nor the seed is a deed", x.told(11), 2);
        x.undo(1);
        is("the book stays", x.told(9), 1);
        x.keep(0);
        is("nothing since the image", x.undo(1), NOT);
    }

    private static void leavesOut() {
        DotObjects x = rowOfThings(5);
        is("now", x.leftOut(4, 1), 8);
        is("drawn ones", x.leftOut(0, 40), 0);
        is("all the while", x.leftOut(4, 40), 320);
        x.rule(2);
        for (int t = 0; t < 5; t++) is("in turn " + t, x.leftOut(t, 40), 64);
        is("in two frames", x.leftOut(0, 2), 8);
        x.rule(0);
        x.speed(4, 0, 8);
        // Lines 0, 8, 16, -8 in turn: with the others on the first alone.
        is("on its way", x.leftOut(4, 4), 8);
        is("round again", x.leftOut(4, 5), 16);
        is("nothing has changed", x.told(3) * 100 + x.thing(4, 1), 8);
        is("unknown", x.leftOut(5, 99), UNKNOWN);
        is("unknown -1", x.leftOut(-1, 1), UNKNOWN);
        is("outside 0", x.leftOut(0, 0), OUTSIDE);
        is("outside 41", x.leftOut(0, 41), OUTSIDE);
    }

    private static void worsts() {
        DotObjects x = rowOfThings(4);
        is("none", x.worst(40), NONE);
        x.limit(2);
        is("of like ones the least", x.worst(1), 2);
        x.move(2, 0, 20);
        is("the one that is", x.worst(40), 3);
        x.move(2, 0, 4);
        is("most lines", x.worst(1), 3);
        is("nothing has changed", x.told(3), 0);
        is("outside 0", x.worst(0), OUTSIDE);
        is("outside 41", x.worst(41), OUTSIDE);
        is("outside most", x.worst(MOST), OUTSIDE);
    }

    private static void books() {
        DotObjects x = rowOfThings(1);
        is("write", x.write(0, 0, 1), 1);
        is("right so far", x.told(10), NONE);
        is("write none", x.write(23, 31, 0), 2);
        is("write wrong", x.write(0, 8, 1), 3);
        is("write wrong too", x.write(0, 9, 1), 4);
        is("the first wrong", x.told(10), 2);
        x.move(0, 8, 0);
        is("another now", x.told(10), 0);
        is("entries", x.told(9), 4);
        int[][] outside = {{-1, 0, 0}, {24, 0, 0}, {0, -1, 0}, {0, 32, 0}, {0, 0, -1}, {0, 0, 8}};
        for (int[] o : outside) is("write outside", x.write(o[0], o[1], o[2]), OUTSIDE);
        for (int n = 5; n <= 20; n++) is("write " + n, x.write(0, 0, 7), n);
        is("write full", x.write(0, 0, 7), FULL);
        is("outside ahead of full", x.write(0, 0, 8), OUTSIDE);
        is("tear", x.tear(), 20);
        is("tear again", x.tear(), 0);
        is("no book", x.told(9), 0);
        is("nothing wrong", x.told(10), NONE);
        is("write anew", x.write(0, 0, 7), 1);
        is("by what is drawn", x.told(10), 0);
    }

    private static void seeds() {
        DotObjects x = new DotObjects();
        is("seed", x.seed(MOST), 0);
        is("seed most", x.seed(5), MOST);
        is("seed -1", x.seed(-1), OUTSIDE);
        is("seed least", x.seed(LEAST), OUTSIDE);
        is("seed as it was", x.seed(0), 5);
        x.seed(MOST);
        x.drift(1);
        // (2^31 - 1) * 1103515245 + 12345 is -1103515245 + 12345 by 2^31, so 1043980748; / 65536 is 15929; by 32: 25.
        is("drawn from the most", x.thing(0, 0), 25 + 8);
    }

    private static void images() {
        DotObjects x = rowOfThings(2);
        x.row(1, 1, 11);
        x.seed(9);
        is("keep", x.keep(0), 1);
        is("no deeds", x.told(11), 0);
        is("undo", x.undo(1), NOT);
        x.take(0);
        x.row(1, 1, 12);
        x.limit(8);
        x.rule(2);
        x.frame(7);
        x.speed(0, 1, 1);
        x.write(0, 0, 1);
        x.seed(10);
        is("keep the other", x.keep(1), 1);
        x.take(0);
        is("back to the first", x.goBack(0), 1);
        is("no deeds then", x.told(11), 0);
        long[] want = {2, 4, 0, 0};
        for (int what = 0; what < 4; what++) is("first " + what, x.told(what), want[what]);
        is("row", x.pictureRow(1, 1), 11);
        is("colour", x.thing(0, 5), 1);
        is("the book stays", x.told(9), 1);
        is("seed", x.seed(99), 9);
        x.move(0, 9, 9);
        is("to the other", x.goBack(1), 1);
        long[] other = {1, 8, 2, 7};
        for (int what = 0; what < 4; what++) is("other " + what, x.told(what), other[what]);
        is("speed", x.thing(0, 6), 9);
        is("seed of the other", x.seed(0), 10);
        x.move(0, 9, 9);
        x.goBack(0);
        is("the image did not move along", x.thing(0, 0), 8);
        is("keep unknown", x.keep(2), UNKNOWN);
        is("keep unknown -1", x.keep(-1), UNKNOWN);
        is("goBack unknown", x.goBack(2), UNKNOWN);
        is("goBack unknown -1", x.goBack(-1), UNKNOWN);
        x = rowOfThings(1);
        x.keep(1);
        x.limit(2);
        is("not kept", x.goBack(0), NOT);
        is("what is refused leaves the deeds", x.told(11), 1);
    }

    private static void holders() {
        DotObjects x = new DotObjects();
        int[] ys = {8, 0, 7, 16, -8, 0, 15};
        for (int y : ys) x.put(0, y, 0, 0, 0, 1);
        // By Y: 4 (-8), 1 (0), 5 (0), 2 (7), 0 (8), 6 (15), 3 (16).
        int[] want = {0, 0, 2, 0, 0, 1, 1};
        for (int t = 0; t < ys.length; t++) is("holder of " + t, x.thing(t, 11), want[t]);
        is("holders used", x.told(7), 3);
        x = new DotObjects();
        x.put(0, -3, 0, 0, 0, 1);
        x.put(0, -8, 0, 0, 0, 1);
        is("above the screen too", x.thing(0, 11) * 10 + x.thing(1, 11), 10);
        is("as many as things", rowOfThings(12).told(7), 12);
        is("the last", rowOfThings(12).thing(11, 11), 11);
    }

    private static void meets() {
        DotObjects x = new DotObjects();
        x.limit(2);
        x.put(0, 0, 0, 0, 0, 1);
        x.put(8, 0, 0, 0, 0, 2);
        x.put(7, 0, 0, 0, 0, 3);
        is("side by side", x.thing(0, 12), 0);
        is("would meet", x.thing(0, 13), 4);
        is("would meet both", x.thing(2, 13), 3);
        is("dropped meets none", x.thing(2, 12), 0);
        x.limit(3);
        is("meets both", x.thing(2, 12), 3);
        x.limit(2);
        x.move(2, 7, 1);
        is("meets on the line where it is drawn", x.thing(2, 12), 0);
        x.move(1, 8, 16);
        is("meets below", x.thing(2, 12), 1);
        x = new DotObjects();
        x.put(-8, 0, 0, 0, 0, 1);
        x.put(-8, 0, 0, 0, 0, 1);
        is("off the screen none meet", x.thing(0, 13), 0);
        x.move(0, -7, 0);
        x.move(1, -7, 0);
        is("on it they do", x.thing(0, 12), 2);
        x.row(1, 0, 240);
        x.put(0, 10, 1, 0, 0, 1);
        x.put(0, 10, 1, 1, 0, 1);
        is("by dots alone", x.thing(2, 13), 0);
    }

    private static void missingIsByColour() {
        DotObjects x = new DotObjects();
        x.limit(1);
        x.put(0, 0, 0, 0, 1, 3);
        x.put(0, 0, 0, 0, 0, 3);
        is("another thing of the same colour is not missing", x.told(4), 0);
        is("though dropped", x.thing(1, 10), 255);
        x.put(0, 0, 0, 0, 0, 4);
        x.take(1);
        is("of another colour it is", x.told(4), 64);
    }
}
