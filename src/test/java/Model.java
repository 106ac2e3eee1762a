import java.util.ArrayList;
import java.util.Comparator;
import java.util.HashMap;
import java.util.List;
import java.util.Map;

/**
 * The document told dot by dot, without masks, sets or arrays used anew: slow, and written apart from the class,
 * so that a slip in one of them shows as a difference.
 */
final class Model {
    static final int UNKNOWN = -1000000001;
    static final int OUTSIDE = -1000000002;
    static final int NOT = -1000000003;
    static final int FULL = -1000000004;

    static final class Thing {
        int x, y, picture, turn, level, colour, dx, dy;

        Thing copy() {
            Thing c = new Thing();
            c.x = x; c.y = y; c.picture = picture; c.turn = turn;
            c.level = level; c.colour = colour; c.dx = dx; c.dy = dy;
            return c;
        }

        boolean on(int line) {
            return y <= line && line <= y + 7;
        }
    }

    static final class State {
        final List<Thing> things = new ArrayList<>();
        final int[][] pictures = new int[4][8];
        int limit = 4, rule = 0, frame = 0;

        State copy() {
            State c = new State();
            for (Thing t : things) c.things.add(t.copy());
            for (int p = 0; p < 4; p++) c.pictures[p] = pictures[p].clone();
            c.limit = limit; c.rule = rule; c.frame = frame;
            return c;
        }

        boolean has(Thing t, int line, int column) {
            int r = line - t.y, c = column - t.x;
            if (r < 0 || r > 7 || c < 0 || c > 7) return false;
            if (t.turn == 1 || t.turn == 3) c = 7 - c;
            if (t.turn == 2 || t.turn == 3) r = 7 - r;
            return pictures[t.picture][r] / (1 << (7 - c)) % 2 == 1;
        }

        List<Thing> inOrder(int byRule) {
            List<Thing> list = new ArrayList<>();
            int n = things.size();
            for (int k = 0; k < n; k++) {
                if (byRule == 1) list.add(0, things.get(k));
                else if (byRule == 2) list.add(things.get((frame + k) % n));
                else list.add(things.get(k));
            }
            if (byRule == 3) list.sort(Comparator.comparingInt(t -> t.level));
            return list;
        }

        List<Thing> drawn(int line, int byRule, int byLimit) {
            List<Thing> list = new ArrayList<>();
            for (Thing t : inOrder(byRule)) if (t.on(line) && list.size() < byLimit) list.add(t);
            return list;
        }

        List<Thing> drawn(int line) {
            return drawn(line, rule, limit);
        }

        Thing seen(List<Thing> drawn, int line, int column) {
            Thing best = null;
            for (Thing t : things) {
                if (drawn.contains(t) && has(t, line, column) && (best == null || t.level < best.level)) best = t;
            }
            return best;
        }

        int colour(List<Thing> drawn, int line, int column) {
            Thing t = seen(drawn, line, column);
            return t == null ? 0 : t.colour;
        }

        int missing(int byRule) {
            int n = 0;
            for (int line = 0; line < 24; line++) {
                List<Thing> some = drawn(line, byRule, limit);
                for (int column = 0; column < 32; column++) {
                    if (colour(some, line, column) != colour(things, line, column)) n++;
                }
            }
            return n;
        }

        void next() {
            frame++;
            for (Thing t : things) {
                t.x += t.dx;
                if (t.x > 31) t.x -= 40;
                if (t.x < -8) t.x += 40;
                t.y += t.dy;
                if (t.y > 23) t.y -= 32;
                if (t.y < -8) t.y += 32;
            }
        }

        int leftOut(int t, int n) {
            State ahead = copy();
            int lines = 0;
            for (int i = 0; i < n; i++) {
                Thing it = ahead.things.get(t);
                for (int line = 0; line < 24; line++) if (it.on(line) && !ahead.drawn(line).contains(it)) lines++;
                ahead.next();
            }
            return lines;
        }

        Map<Thing, Integer> holders() {
            List<Thing> sorted = new ArrayList<>(things);
            sorted.sort(Comparator.comparingInt(t -> t.y));
            List<Thing> latest = new ArrayList<>();
            Map<Thing, Integer> holders = new HashMap<>();
            for (Thing t : sorted) {
                int h = 0;
                while (h < latest.size() && latest.get(h).y + 8 > t.y) h++;
                if (h == latest.size()) latest.add(t);
                else latest.set(h, t);
                holders.put(t, h);
            }
            return holders;
        }
    }

    State now = new State();
    long seed = 0;
    final List<State> earlier = new ArrayList<>();
    final State[] images = new State[2];
    final long[] imageSeeds = new long[2];
    final List<int[]> book = new ArrayList<>();

    Model() {
        for (int r = 0; r < 8; r++) now.pictures[0][r] = 255;
    }

    private void deed() {
        earlier.add(now.copy());
        if (earlier.size() > 20) earlier.remove(0);
    }

    private static boolean out(int v, int least, int most) {
        return v < least || v > most;
    }

    private boolean unknown(int t) {
        return out(t, 0, now.things.size() - 1);
    }

    int told(int what) {
        switch (what) {
            case 0: return now.things.size();
            case 1: return now.limit;
            case 2: return now.rule;
            case 3: return now.frame;
            case 4: return now.missing(now.rule);
            case 5: return bestRule();
            case 6: return enough();
            case 7: return (int) now.holders().values().stream().distinct().count();
            case 8: return filled();
            case 9: return book.size();
            case 10: return wrong();
            case 11: return earlier.size();
            default: return OUTSIDE;
        }
    }

    private int bestRule() {
        int best = 0;
        for (int r = 1; r < 4; r++) if (now.missing(r) < now.missing(best)) best = r;
        return best;
    }

    private int enough() {
        for (int limit = 1; limit <= 12; limit++) {
            boolean all = true;
            for (int line = 0; line < 24; line++) {
                for (Thing t : now.things) all &= !t.on(line) || now.drawn(line, now.rule, limit).contains(t);
            }
            if (all) return limit;
        }
        return 13;
    }

    private int filled() {
        int n = 0;
        for (int line = 0; line < 24; line++) {
            for (int column = 0; column < 32; column++) if (now.colour(now.drawn(line), line, column) != 0) n++;
        }
        return n;
    }

    private int wrong() {
        for (int k = 0; k < book.size(); k++) {
            int[] e = book.get(k);
            if (now.colour(now.drawn(e[0]), e[0], e[1]) != e[2]) return k;
        }
        return -1;
    }

    int thing(int t, int what) {
        if (unknown(t)) return UNKNOWN;
        Thing it = now.things.get(t);
        switch (what) {
            case 0: return it.x + 8;
            case 1: return it.y + 8;
            case 2: return it.picture;
            case 3: return it.turn;
            case 4: return it.level;
            case 5: return it.colour;
            case 6: return it.dx + 8;
            case 7: return it.dy + 8;
            case 8: return countDots(it, true);
            case 9: return countDots(it, false);
            case 10: return droppedLines(it);
            case 11: return now.holders().get(it);
            case 12: return meets(it, true);
            case 13: return meets(it, false);
            default: return OUTSIDE;
        }
    }

    private int countDots(Thing it, boolean seen) {
        int n = 0;
        for (int line = 0; line < 24; line++) {
            List<Thing> drawn = now.drawn(line);
            for (int column = 0; column < 32; column++) {
                boolean hasIt = drawn.contains(it) && now.has(it, line, column);
                if (hasIt && (now.seen(drawn, line, column) == it) == seen) n++;
            }
        }
        return n;
    }

    private int droppedLines(Thing it) {
        int set = 0;
        for (int line = 0; line < 24; line++) if (it.on(line) && !now.drawn(line).contains(it)) set += 1 << line;
        return set;
    }

    private int meets(Thing it, boolean ifDrawn) {
        int set = 0;
        for (int u = 0; u < now.things.size(); u++) {
            Thing other = now.things.get(u);
            if (other != it && meet(it, other, ifDrawn)) set += 1 << u;
        }
        return set;
    }

    private boolean meet(Thing a, Thing b, boolean ifDrawn) {
        for (int line = 0; line < 24; line++) {
            List<Thing> drawn = ifDrawn ? now.drawn(line) : now.things;
            for (int column = 0; column < 32; column++) {
                if (drawn.contains(a) && drawn.contains(b) && now.has(a, line, column) && now.has(b, line, column)) {
                    return true;
                }
            }
        }
        return false;
    }

    int dot(int line, int column, int what) {
        if (out(line, 0, 23) || out(column, 0, 31) || out(what, 0, 2)) return OUTSIDE;
        if (what == 0) return now.colour(now.drawn(line), line, column);
        if (what == 2) return now.colour(now.things, line, column);
        return now.things.indexOf(now.seen(now.drawn(line), line, column));
    }

    long line(int line, int part) {
        if (out(line, 0, 23) || out(part, 0, 3)) return -1;
        StringBuilder figures = new StringBuilder();
        for (int k = 0; k < 8; k++) figures.append(dot(line, part * 8 + k, 0));
        return Long.parseLong(figures.toString(), 8);
    }

    int drawn(int line, int what) {
        if (out(line, 0, 23) || out(what, 0, 1)) return OUTSIDE;
        int set = 0;
        for (int t = 0; t < now.things.size(); t++) {
            Thing it = now.things.get(t);
            if (it.on(line) && now.drawn(line).contains(it) == (what == 0)) set += 1 << t;
        }
        return set;
    }

    int pictureRow(int p, int r) {
        if (out(p, 0, 3)) return UNKNOWN;
        return out(r, 0, 7) ? OUTSIDE : now.pictures[p][r];
    }

    int row(int p, int r, int bits) {
        if (out(p, 0, 3)) return UNKNOWN;
        if (out(r, 0, 7) || out(bits, 0, 255)) return OUTSIDE;
        deed();
        int was = now.pictures[p][r];
        now.pictures[p][r] = bits;
        return was;
    }

    int put(int x, int y, int picture, int turn, int level, int colour) {
        if (out(picture, 0, 3)) return UNKNOWN;
        if (out(x, -8, 31) || out(y, -8, 23) || out(turn, 0, 3) || out(level, 0, 3) || out(colour, 1, 7)) return OUTSIDE;
        if (now.things.size() == 12) return FULL;
        deed();
        Thing t = new Thing();
        t.x = x; t.y = y; t.picture = picture; t.turn = turn; t.level = level; t.colour = colour;
        now.things.add(t);
        return now.things.size() - 1;
    }

    int move(int t, int x, int y) {
        if (unknown(t)) return UNKNOWN;
        if (out(x, -8, 31) || out(y, -8, 23)) return OUTSIDE;
        deed();
        now.things.get(t).x = x;
        now.things.get(t).y = y;
        int n = 0;
        for (int line = 0; line < 24; line++) if (now.things.get(t).on(line)) n++;
        return n;
    }

    int turn(int t, int turn, int level) {
        if (unknown(t)) return UNKNOWN;
        if (out(turn, 0, 3) || out(level, 0, 3)) return OUTSIDE;
        deed();
        now.things.get(t).turn = turn;
        now.things.get(t).level = level;
        return thing(t, 8);
    }

    int speed(int t, int dx, int dy) {
        if (unknown(t)) return UNKNOWN;
        if (out(dx, -8, 8) || out(dy, -8, 8)) return OUTSIDE;
        deed();
        now.things.get(t).dx = dx;
        now.things.get(t).dy = dy;
        return 1;
    }

    int take(int t) {
        if (unknown(t)) return UNKNOWN;
        deed();
        now.things.remove(t);
        return now.things.size();
    }

    int limit(int v) {
        if (out(v, 1, 8)) return OUTSIDE;
        deed();
        now.limit = v;
        return told(4);
    }

    int rule(int v) {
        if (out(v, 0, 3)) return OUTSIDE;
        deed();
        now.rule = v;
        return told(4);
    }

    int frame(int n) {
        if (out(n, 1, 40)) return OUTSIDE;
        deed();
        for (int i = 0; i < n; i++) now.next();
        return now.frame;
    }

    private int draw(int n) {
        seed = (seed * 1103515245L + 12345L) % 2147483648L;
        return (int) (seed / 65536 % n);
    }

    int drift(int n) {
        if (out(n, 1, 12)) return OUTSIDE;
        for (int i = 0; i < n; i++) {
            if (now.things.size() < 12) put(draw(32), draw(24), draw(4), draw(4), draw(4), draw(7) + 1);
        }
        return now.things.size();
    }

    int undo(int n) {
        if (out(n, 1, 20)) return OUTSIDE;
        if (n > earlier.size()) return NOT;
        for (int i = 0; i < n; i++) now = earlier.remove(earlier.size() - 1);
        return now.things.size();
    }

    int leftOut(int t, int n) {
        if (unknown(t)) return UNKNOWN;
        return out(n, 1, 40) ? OUTSIDE : now.leftOut(t, n);
    }

    int worst(int n) {
        if (out(n, 1, 40)) return OUTSIDE;
        int worst = -1, most = 0;
        for (int t = 0; t < now.things.size(); t++) {
            int lines = now.leftOut(t, n);
            if (lines > most) {
                worst = t;
                most = lines;
            }
        }
        return worst;
    }

    int write(int line, int column, int colour) {
        if (out(line, 0, 23) || out(column, 0, 31) || out(colour, 0, 7)) return OUTSIDE;
        if (book.size() == 20) return FULL;
        book.add(new int[] {line, column, colour});
        return book.size();
    }

    int tear() {
        int had = book.size();
        book.clear();
        return had;
    }

    int seed(int v) {
        if (v < 0) return OUTSIDE;
        int was = (int) seed;
        seed = v;
        return was;
    }

    int keep(int i) {
        if (out(i, 0, 1)) return UNKNOWN;
        images[i] = now.copy();
        imageSeeds[i] = seed;
        earlier.clear();
        return 1;
    }

    int goBack(int i) {
        if (out(i, 0, 1)) return UNKNOWN;
        if (images[i] == null) return NOT;
        now = images[i].copy();
        seed = imageSeeds[i];
        earlier.clear();
        return 1;
    }
}
