/** What several tests look at in the same way. */
final class Look {
    private Look() {
    }

    /** The 32 COLOURS of a LINE, one sign each. */
    static String at(DotObjects x, int line) {
        StringBuilder signs = new StringBuilder();
        for (int part = 0; part < 4; part++) {
            long figures = x.line(line, part);
            for (int k = 7; k >= 0; k--) signs.append((figures >> (3 * k)) & 7);
        }
        return signs.toString();
    }

    /** A LINE of 32 COLUMNS that is empty but for some signs from a COLUMN on; what lies outside is cut off. */
    static String lineWith(int column, String signs) {
        StringBuilder line = new StringBuilder("0".repeat(32));
        for (int k = 0; k < signs.length(); k++) {
            if (column + k >= 0 && column + k < 32) line.setCharAt(column + k, signs.charAt(k));
        }
        return line.toString();
    }

    /** n THINGS, all dots set, one on the other with the upper left dot at x, y; COLOURS 1 .. 7 and again, LEVEL 0. */
    static DotObjects pile(int n, int x, int y) {
        DotObjects pile = new DotObjects();
        for (int t = 0; t < n; t++) pile.put(x, y, 0, 0, 0, t % 7 + 1);
        return pile;
    }

    /** X and Y of a THING as two figures of 100, each 8 more. */
    static int place(DotObjects x, int t) {
        return x.thing(t, 0) * 100 + x.thing(t, 1);
    }

    /** DX and DY of a THING as two figures of 100, each 8 more. */
    static int speed(DotObjects x, int t) {
        return x.thing(t, 6) * 100 + x.thing(t, 7);
    }

    /** The eight things that a THING is, told as one text. */
    static String thing(DotObjects x, int t) {
        StringBuilder told = new StringBuilder();
        for (int what = 0; what < 8; what++) told.append(what == 0 ? "" : " ").append(x.thing(t, what));
        return told.toString();
    }
}
