/**
 * Promises 1 to 25, one method for each: what the call answers at the last number inside each bound, the first outside, the
 * least and the greatest int, and each two refusals that can meet in it. (RefusalsTest tries every call by a table; here
 * each answer is written out.)
 */
public final class CallEdgesTest {
    private static final int NONE = -1, UNKNOWN = -1000000001, OUTSIDE = -1000000002, NOT = -1000000003, FULL = -1000000004;
    private static final int LEAST = Integer.MIN_VALUE, MOST = Integer.MAX_VALUE;
    private static final Due due = new Due("CallEdgesTest");

    public static void main(String[] args) {
        promise1NewObject();
        promise1ObjectsAreApart();
        promise2Told();
        promise3Thing();
        promise4Dot();
        promise5Line();
        promise6Drawn();
        promise7PictureRow();
        promise8Row();
        promise9Put();
        promise10Move();
        promise11Turn();
        promise12Speed();
        promise13Take();
        promise14Limit();
        promise15Rule();
        promise16Frame();
        promise17Drift();
        promise18Undo();
        promise19LeftOut();
        promise20Worst();
        promise21Write();
        promise22Tear();
        promise23Seed();
        promise24Keep();
        promise25GoBack();
        due.close();
    }

    private static void is(String call, long got, long want) {
        due.is(call, got, want);
    }

    private static void is(String call, String got, String want) {
        due.is(call, got, want);
    }

    private static void promise1NewObject() {
        DotObjects x = new DotObjects();
        is("no things", x.told(0), 0);
        for (int what = 0; what < 14; what++) is("no thing 0", x.thing(0, what), UNKNOWN);
        is("move", x.move(0, 0, 0), UNKNOWN);
        is("turn", x.turn(0, 0, 0), UNKNOWN);
        is("speed", x.speed(0, 0, 0), UNKNOWN);
        is("take", x.take(0), UNKNOWN);
        is("leftOut", x.leftOut(0, 1), UNKNOWN);
        is("worst", x.worst(1), NONE);
        is("undo", x.undo(1), NOT);
        is("goBack 0", x.goBack(0), NOT);
        is("goBack 1", x.goBack(1), NOT);
        is("tear", x.tear(), 0);
        is("drawn", x.drawn(0, 0), 0);
        is("dropped", x.drawn(23, 1), 0);
        is("limit", x.limit(1), 0);
        is("rule", x.rule(3), 0);
        is("frame", x.frame(1), 1);
        is("seed", x.seed(1), 0);
    }

    /** What one object holds is not another's. */
    private static void promise1ObjectsAreApart() {
        DotObjects x = Look.pile(12, 0, 0);
        x.row(0, 0, 0);
        x.limit(1);
        x.write(0, 0, 1);
        x.seed(5);
        x.keep(0);
        x.frame(3);
        promise1NewObject();
        is("and the first is as it was", x.told(0) * 100 + x.told(3) * 10 + x.told(11), 1231);
    }

    private static void promise2Told() {
        DotObjects x = new DotObjects();
        x.row(1, 0, 1);
        x.row(1, 0, 2);
        x.limit(5);
        for (int t = 0; t < 7; t++) x.put(-5, -7, 0, 0, t == 6 ? 0 : 1, t + 1);
        x.put(-5, -8, 0, 0, 1, 1);
        x.put(8, 16, 0, 0, 1, 1);
        x.rule(2);
        x.frame(37);
        for (int k = 0; k < 12; k++) x.write(16, 8, k < 10 ? 1 : 2);
        // On line 0 are things 0 .. 6, of which 6 is in front: three columns. FRAME 37 left over by 9 is 1: 1 .. 5 are drawn.
        // By rules 0 and 2 thing 6 is dropped, by 1 and 3 it is not. Above the screen thing 7 needs a holder too.
        int[] want = {9, 5, 2, 37, 3, 1, 7, 8, 67, 12, 10, 14};
        for (int what = 0; what < 12; what++) is("told " + what, x.told(what), want[what]);
        int[] outside = {-1, 12, 13, LEAST, MOST};
        for (int what : outside) is("told " + what, x.told(what), OUTSIDE);
    }

    private static void promise3Thing() {
        DotObjects x = new DotObjects();
        for (int r = 0; r < 8; r++) x.row(2, r, 255);
        x.limit(2);
        x.rule(1);
        x.put(12, 17, 2, 0, 3, 7);
        x.put(16, 10, 0, 0, 0, 1);
        x.put(14, 22, 0, 0, 0, 2);
        x.put(19, 23, 0, 0, 0, 3);
        x.speed(0, 4, -3);
        // Line 17: thing 1 covers four dots; 18 .. 21: it is alone; 22: thing 2 covers six; 23: things 3 and 2 are drawn.
        int[] want = {20, 25, 2, 0, 3, 7, 12, 5, 4 + 32 + 2, 4 + 6, 1 << 23, 1, 6, 14};
        for (int what = 0; what < 14; what++) is("thing 0 " + what, x.thing(0, what), want[what]);
        int[] outside = {-1, 14, 15, LEAST, MOST};
        for (int what : outside) is("thing 0 " + what, x.thing(0, what), OUTSIDE);
        int[] unknown = {-1, 4, 12, LEAST, MOST};
        for (int t : unknown) {
            for (int what = 0; what < 14; what++) is("thing " + t + " " + what, x.thing(t, what), UNKNOWN);
            for (int what : outside) is("unknown ahead of outside", x.thing(t, what), UNKNOWN);
        }
        is("the last there is", x.thing(3, 0), 27);
    }

    private static void promise4Dot() {
        DotObjects x = Look.pile(1, 31, 23);
        x.put(-7, -7, 0, 0, 0, 7);
        int[][] dots = {{0, 0, 7, 1}, {23, 31, 1, 0}, {0, 31, 0, NONE}, {23, 0, 0, NONE}, {0, 1, 0, NONE}, {22, 31, 0, NONE}};
        for (int[] d : dots) {
            is("colour", x.dot(d[0], d[1], 0), d[2]);
            is("thing", x.dot(d[0], d[1], 1), d[3]);
            is("whole", x.dot(d[0], d[1], 2), d[2]);
        }
        int[] lines = {-1, 24, LEAST, MOST};
        int[] columns = {-1, 32, LEAST, MOST};
        int[] whats = {-1, 3, LEAST, MOST};
        for (int line : lines) for (int what = 0; what < 3; what++) is("line " + line, x.dot(line, 0, what), OUTSIDE);
        for (int column : columns) for (int what = 0; what < 3; what++) is("column " + column, x.dot(0, column, what), OUTSIDE);
        for (int what : whats) is("what " + what, x.dot(23, 31, what), OUTSIDE);
        is("all at once", x.dot(24, 32, 3), OUTSIDE);
    }

    private static void promise5Line() {
        DotObjects x = new DotObjects();
        for (int t = 0; t < 4; t++) x.put(8 * t, 16, 0, 0, 0, 7 - t);
        long[] sevens = {077777777L, 066666666L, 055555555L, 044444444L};
        for (int part = 0; part < 4; part++) {
            is("line 23 part " + part, x.line(23, part), sevens[part]);
            is("line 15 part " + part, x.line(15, part), 0);
            is("line 24 part " + part, x.line(24, part), -1);
            is("line -1 part " + part, x.line(-1, part), -1);
        }
        x.row(1, 0, 128);
        x.put(0, 0, 1, 0, 0, 7);
        x.put(8, 0, 1, 1, 0, 7);
        is("the first is the highest", x.line(0, 0), 070000000L);
        is("the last the lowest", x.line(0, 1), 7L);
        int[] parts = {-1, 4, LEAST, MOST};
        for (int part : parts) is("part " + part, x.line(0, part), -1);
        int[] lines = {LEAST, MOST};
        for (int line : lines) is("line " + line, x.line(line, 0), -1);
        is("both", x.line(24, 4), -1);
    }

    private static void promise6Drawn() {
        DotObjects x = Look.pile(12, 0, 16);
        x.limit(8);
        is("drawn on 23", x.drawn(23, 0), 0x0FF);
        is("dropped on 23", x.drawn(23, 1), 0xF00);
        is("drawn on 15", x.drawn(15, 0), 0);
        is("dropped on 15", x.drawn(15, 1), 0);
        x.move(11, 0, 0);
        is("drawn on 0", x.drawn(0, 0), 0x800);
        is("dropped on 0", x.drawn(0, 1), 0);
        int[][] outside = {{-1, 0}, {24, 0}, {LEAST, 1}, {MOST, 1}, {0, -1}, {23, 2}, {0, LEAST}, {0, MOST}, {24, 2}};
        for (int[] o : outside) is("drawn " + o[0] + " " + o[1], x.drawn(o[0], o[1]), OUTSIDE);
    }

    private static void promise7PictureRow() {
        DotObjects x = new DotObjects();
        x.row(3, 7, 129);
        is("first", x.pictureRow(0, 0), 255);
        is("last", x.pictureRow(3, 7), 129);
        int[] pictures = {-1, 4, LEAST, MOST};
        int[] rows = {-1, 8, LEAST, MOST};
        for (int p : pictures) {
            is("picture " + p, x.pictureRow(p, 0), UNKNOWN);
            for (int r : rows) is("unknown ahead of outside", x.pictureRow(p, r), UNKNOWN);
        }
        for (int r : rows) for (int p = 0; p < 4; p++) is("row " + r, x.pictureRow(p, r), OUTSIDE);
    }

    private static void promise8Row() {
        DotObjects x = new DotObjects();
        is("first", x.row(0, 0, 0), 255);
        is("what it was", x.row(0, 0, 255), 0);
        is("last", x.row(3, 7, 255), 0);
        is("what it was", x.row(3, 7, 254), 255);
        is("what it is", x.pictureRow(3, 7), 254);
        int[] pictures = {-1, 4, LEAST, MOST};
        int[] rows = {-1, 8, LEAST, MOST};
        int[] bits = {-1, 256, LEAST, MOST};
        for (int p : pictures) {
            is("picture " + p, x.row(p, 0, 0), UNKNOWN);
            for (int r : rows) is("unknown ahead of a row outside", x.row(p, r, 0), UNKNOWN);
            for (int b : bits) is("unknown ahead of bits outside", x.row(p, 0, b), UNKNOWN);
        }
        for (int r : rows) is("row " + r, x.row(3, r, 0), OUTSIDE);
        for (int b : bits) is("bits " + b, x.row(3, 7, b), OUTSIDE);
        is("as it was", x.pictureRow(3, 7), 254);
        is("four deeds", x.told(11), 4);
        x.put(0, 0, 3, 0, 0, 1);
        x.row(3, 7, 1);
        is("things show it at once", x.dot(7, 7, 0) * 10 + x.dot(7, 6, 0), 10);
    }

    private static void promise9Put() {
        DotObjects x = new DotObjects();
        is("least of all", x.put(-8, -8, 0, 0, 0, 1), 0);
        is("most of all", x.put(31, 23, 3, 3, 3, 7), 1);
        is("the least", Look.thing(x, 0), "0 0 0 0 0 1 8 8");
        is("the most", Look.thing(x, 1), "39 31 3 3 3 7 8 8");
        int[][] outside = {{-9, 0, 0, 0, 1}, {32, 0, 0, 0, 1}, {LEAST, 0, 0, 0, 1}, {MOST, 0, 0, 0, 1},
            {0, -9, 0, 0, 1}, {0, 24, 0, 0, 1}, {0, LEAST, 0, 0, 1}, {0, MOST, 0, 0, 1},
            {0, 0, -1, 0, 1}, {0, 0, 4, 0, 1}, {0, 0, LEAST, 0, 1}, {0, 0, MOST, 0, 1},
            {0, 0, 0, -1, 1}, {0, 0, 0, 4, 1}, {0, 0, 0, LEAST, 1}, {0, 0, 0, MOST, 1},
            {0, 0, 0, 0, 0}, {0, 0, 0, 0, 8}, {0, 0, 0, 0, LEAST}, {0, 0, 0, 0, MOST}};
        int[] pictures = {-1, 4, LEAST, MOST};
        checkPutRefused(x, outside, pictures);
        for (int t = 2; t < 12; t++) is("put " + t, x.put(0, 0, 0, 0, 0, 1), t);
        checkPutRefused(x, outside, pictures);
        is("full", x.put(0, 0, 0, 0, 0, 1), FULL);
        is("full at the most too", x.put(31, 23, 3, 3, 3, 7), FULL);
        is("twelve deeds", x.told(11), 12);
    }

    /** Whether there is room or not. */
    private static void checkPutRefused(DotObjects x, int[][] outside, int[] pictures) {
        for (int p : pictures) is("picture " + p, x.put(0, 0, p, 0, 0, 1), UNKNOWN);
        for (int[] o : outside) {
            is("outside", x.put(o[0], o[1], 0, o[2], o[3], o[4]), OUTSIDE);
            is("unknown ahead of outside", x.put(o[0], o[1], 4, o[2], o[3], o[4]), UNKNOWN);
        }
    }

    private static void promise10Move() {
        DotObjects x = Look.pile(12, 5, 5);
        is("least", x.move(0, -8, -8), 0);
        is("most", x.move(11, 31, 23), 1);
        is("at the least", Look.place(x, 0), 0);
        is("at the most", Look.place(x, 11), 3931);
        is("beside the screen it is on its lines", x.move(0, -8, 0), 8);
        is("the others stay", Look.place(x, 1), 1313);
        int[][] outside = {{-9, 0}, {32, 0}, {LEAST, 0}, {MOST, 0}, {0, -9}, {0, 24}, {0, LEAST}, {0, MOST}, {32, 24}};
        int[] unknown = {-1, 12, LEAST, MOST};
        for (int[] o : outside) {
            is("outside", x.move(11, o[0], o[1]), OUTSIDE);
            for (int t : unknown) is("unknown ahead of outside", x.move(t, o[0], o[1]), UNKNOWN);
        }
        for (int t : unknown) is("thing " + t, x.move(t, 0, 0), UNKNOWN);
        is("as it was", Look.place(x, 11), 3931);
    }

    private static void promise11Turn() {
        DotObjects x = Look.pile(2, 0, 0);
        is("level 3", x.turn(0, 3, 3), 0);
        is("level 0", x.turn(0, 0, 0), 64);
        is("level 3 again", x.turn(0, 3, 3), 0);
        is("turn and level", x.thing(0, 3) * 10 + x.thing(0, 4), 33);
        x.limit(1);
        is("dropped it is not seen", x.turn(1, 0, 0), 0);
        is("behind but alone", x.turn(0, 0, 3), 64);
        int[][] outside = {{-1, 0}, {4, 0}, {LEAST, 0}, {MOST, 0}, {0, -1}, {0, 4}, {0, LEAST}, {0, MOST}, {4, 4}};
        int[] unknown = {-1, 2, LEAST, MOST};
        for (int[] o : outside) {
            is("outside", x.turn(1, o[0], o[1]), OUTSIDE);
            for (int t : unknown) is("unknown ahead of outside", x.turn(t, o[0], o[1]), UNKNOWN);
        }
        for (int t : unknown) is("thing " + t, x.turn(t, 0, 0), UNKNOWN);
        is("as it was", x.thing(1, 3) * 10 + x.thing(1, 4), 0);
    }

    private static void promise12Speed() {
        DotObjects x = Look.pile(2, 0, 0);
        is("least", x.speed(0, -8, -8), 1);
        is("most", x.speed(1, 8, 8), 1);
        is("told least", Look.speed(x, 0), 0);
        is("told most", Look.speed(x, 1), 1616);
        is("they stand yet", Look.place(x, 0) * 10000 + Look.place(x, 1), 8080808);
        int[][] outside = {{-9, 0}, {9, 0}, {LEAST, 0}, {MOST, 0}, {0, -9}, {0, 9}, {0, LEAST}, {0, MOST}, {9, 9}};
        int[] unknown = {-1, 2, LEAST, MOST};
        for (int[] o : outside) {
            is("outside", x.speed(1, o[0], o[1]), OUTSIDE);
            for (int t : unknown) is("unknown ahead of outside", x.speed(t, o[0], o[1]), UNKNOWN);
        }
        for (int t : unknown) is("thing " + t, x.speed(t, 0, 0), UNKNOWN);
        is("as it was", Look.speed(x, 1), 1616);
        is("back to nought", x.speed(1, 0, 0) * 10000 + Look.speed(x, 1), 10808);
    }

    private static void promise13Take() {
        DotObjects x = Look.pile(12, 0, 0);
        int[] unknown = {-1, 12, LEAST, MOST};
        for (int t : unknown) is("take " + t, x.take(t), UNKNOWN);
        is("the last", x.take(11), 11);
        is("it is gone", x.take(11), UNKNOWN);
        is("the first", x.take(0), 10);
        for (int left = 9; left >= 0; left--) is("the last of " + (left + 1), x.take(left), left);
        is("none is left", x.take(0), UNKNOWN);
        is("twelve deeds", x.undo(12), 12);
    }

    private static void promise14Limit() {
        DotObjects x = Look.pile(8, 0, 0);
        x.rule(1);
        is("8", x.limit(8), 0);
        is("7: thing 1 is seen instead of 0", x.limit(7), 64);
        is("1: thing 7 is, of the same colour as 0", x.limit(1), 0);
        x.move(7, 8, 0);
        is("1, beside", x.limit(1), 64);
        is("2", x.limit(2), 64);
        is("8 again", x.limit(8), 0);
        int[] outside = {0, 9, -1, LEAST, MOST};
        for (int v : outside) is("limit " + v, x.limit(v), OUTSIDE);
        is("as it was", x.told(1), 8);
    }

    private static void promise15Rule() {
        DotObjects x = Look.pile(2, 0, 0);
        x.limit(1);
        is("0", x.rule(0), 0);
        is("1", x.rule(1), 64);
        is("2", x.rule(2), 0);
        is("3", x.rule(3), 0);
        x.frame(1);
        is("2 in frame 1", x.rule(2), 64);
        int[] outside = {-1, 4, LEAST, MOST};
        for (int v : outside) is("rule " + v, x.rule(v), OUTSIDE);
        is("as it was", x.told(2), 2);
    }

    private static void promise16Frame() {
        DotObjects x = Look.pile(1, 0, 0);
        x.speed(0, 1, -1);
        is("1", x.frame(1), 1);
        is("40", x.frame(40), 41);
        // X 41 is 1 behind a round of 40; Y -41 is 23 behind two rounds of 32.
        is("where it is", Look.place(x, 0), 931);
        int[] outside = {0, 41, -1, LEAST, MOST};
        for (int n : outside) is("frame " + n, x.frame(n), OUTSIDE);
        is("as it was", x.told(3) * 10000 + Look.place(x, 0), 410931);
        is("four deeds", x.told(11), 4);
    }

    private static void promise17Drift() {
        DotObjects x = new DotObjects();
        is("1", x.drift(1), 1);
        is("12", x.drift(12), 12);
        is("without room", x.drift(1), 12);
        is("without room, 12", x.drift(12), 12);
        int[] outside = {0, 13, -1, LEAST, MOST};
        for (int n : outside) is("drift " + n, x.drift(n), OUTSIDE);
        is("twelve deeds", x.told(11), 12);
        x.take(0);
        is("room again", x.drift(2), 12);
        is("two deeds more", x.told(11), 14);
    }

    private static void promise18Undo() {
        DotObjects x = new DotObjects();
        int[] outside = {0, 21, -1, LEAST, MOST};
        for (int n : outside) is("undo " + n + ": outside ahead of not", x.undo(n), OUTSIDE);
        is("1 of none", x.undo(1), NOT);
        is("20 of none", x.undo(20), NOT);
        x.put(0, 0, 0, 0, 0, 1);
        is("2 of one", x.undo(2), NOT);
        is("1 of one", x.undo(1), 0);
        for (int k = 0; k < 12; k++) x.put(0, 0, 0, 0, 0, 1);
        for (int k = 0; k < 8; k++) x.take(0);
        is("20 of twenty", x.told(11) * 100 + x.undo(20), 2000);
        for (int k = 0; k < 12; k++) x.put(0, 0, 0, 0, 0, 1);
        for (int k = 0; k < 9; k++) x.take(0);
        for (int n : outside) is("undo " + n, x.undo(n), OUTSIDE);
        is("20 of more", x.undo(20), 1);
        is("no more", x.undo(1), NOT);
    }

    private static void promise19LeftOut() {
        DotObjects x = Look.pile(12, 0, 0);
        is("the first", x.leftOut(0, 40), 0);
        is("the last", x.leftOut(11, 40), 320);
        is("the last now", x.leftOut(11, 1), 8);
        is("the last that is drawn", x.leftOut(3, 40), 0);
        is("the first that is dropped", x.leftOut(4, 1), 8);
        int[] frames = {0, 41, -1, LEAST, MOST};
        int[] unknown = {-1, 12, LEAST, MOST};
        for (int n : frames) {
            is("in " + n, x.leftOut(11, n), OUTSIDE);
            for (int t : unknown) is("unknown ahead of outside", x.leftOut(t, n), UNKNOWN);
        }
        for (int t : unknown) is("thing " + t, x.leftOut(t, 1), UNKNOWN);
    }

    private static void promise20Worst() {
        DotObjects x = Look.pile(12, 0, 0);
        is("1", x.worst(1), 4);
        is("40", x.worst(40), 4);
        x.limit(8);
        is("limit 8", x.worst(40), 8);
        x.rule(1);
        is("rule 1", x.worst(40), 0);
        for (int t = 0; t < 3; t++) x.move(t, 0, 16);
        is("three below", x.worst(1), 3);
        x.move(3, 0, 16);
        is("four below", x.worst(40), NONE);
        int[] outside = {0, 41, -1, LEAST, MOST};
        for (int n : outside) is("worst " + n, x.worst(n), OUTSIDE);
    }

    private static void promise21Write() {
        DotObjects x = new DotObjects();
        is("least", x.write(0, 0, 0), 1);
        is("most", x.write(23, 31, 7), 2);
        is("the most is wrong", x.told(10), 1);
        x.put(31, 23, 0, 0, 0, 7);
        is("now it is right", x.told(10), NONE);
        int[][] outside = {{-1, 0, 0}, {24, 0, 0}, {LEAST, 0, 0}, {MOST, 0, 0}, {0, -1, 0}, {0, 32, 0}, {0, LEAST, 0}, {0, MOST, 0},
            {0, 0, -1}, {0, 0, 8}, {0, 0, LEAST}, {0, 0, MOST}, {24, 32, 8}};
        for (int[] o : outside) is("outside", x.write(o[0], o[1], o[2]), OUTSIDE);
        for (int n = 3; n <= 20; n++) is("write " + n, x.write(0, 0, 0), n);
        is("full", x.write(0, 0, 0), FULL);
        for (int[] o : outside) is("outside ahead of full", x.write(o[0], o[1], o[2]), OUTSIDE);
        is("twenty", x.told(9), 20);
    }

    private static void promise22Tear() {
        DotObjects x = Look.pile(1, 0, 0);
        is("none", x.tear(), 0);
        for (int n = 1; n <= 20; n++) {
            for (int k = 0; k < n; k++) x.write(0, 0, 1);
            is("tear " + n, x.tear(), n);
            is("no entry", x.told(9), 0);
        }
        is("none again", x.tear(), 0);
        is("the thing is as it was", x.told(0) * 10 + x.told(11), 11);
    }

    private static void promise23Seed() {
        DotObjects x = new DotObjects();
        is("at first", x.seed(0), 0);
        is("least", x.seed(MOST), 0);
        is("most", x.seed(MOST - 1), MOST);
        is("one less", x.seed(1), MOST - 1);
        int[] outside = {-1, LEAST, LEAST + 1};
        for (int v : outside) is("seed " + v, x.seed(v), OUTSIDE);
        is("as it was", x.seed(0), 1);
    }

    private static void promise24Keep() {
        DotObjects x = Look.pile(3, 0, 0);
        int[] unknown = {-1, 2, LEAST, MOST};
        for (int i : unknown) is("keep " + i, x.keep(i), UNKNOWN);
        is("three can be undone", x.told(11), 3);
        is("nothing was kept", x.goBack(0), NOT);
        is("nor there", x.goBack(1), NOT);
        is("keep 1", x.keep(1), 1);
        is("nothing can be undone", x.told(11), 0);
        x.take(0);
        is("keep 0", x.keep(0), 1);
        is("nothing can be undone", x.undo(1), NOT);
        x.take(0);
        for (int i : unknown) is("keep " + i, x.keep(i), UNKNOWN);
        is("this can be undone", x.undo(1), 2);
        x.goBack(1);
        is("image 1", x.told(0), 3);
        x.goBack(0);
        is("image 0", x.told(0), 2);
    }

    private static void promise25GoBack() {
        DotObjects x = Look.pile(3, 0, 0);
        int[] unknown = {-1, 2, LEAST, MOST};
        for (int i : unknown) is("goBack " + i + ": unknown ahead of not", x.goBack(i), UNKNOWN);
        is("goBack 0", x.goBack(0), NOT);
        is("goBack 1", x.goBack(1), NOT);
        is("three can be undone", x.told(11), 3);
        x.keep(0);
        x.take(0);
        is("not that one", x.goBack(1), NOT);
        for (int i : unknown) is("goBack " + i, x.goBack(i), UNKNOWN);
        is("as it was", x.told(0) * 10 + x.told(11), 21);
        is("goBack 0 now", x.goBack(0), 1);
        is("three, nothing can be undone", x.told(0) * 10 + x.told(11), 30);
        is("undo", x.undo(1), NOT);
        x.put(0, 0, 0, 0, 0, 1);
        is("undo since", x.undo(1), 3);
    }
}
