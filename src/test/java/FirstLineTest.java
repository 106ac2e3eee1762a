import java.util.Random;

/**
 * The document's first sentence, phrase by phrase, in scenes by fixed seeds. No model tells here what is due: each answer
 * is held against other answers of the class, down to what a THING alone on THE SCREEN looks like.
 */
public final class FirstLineTest {
    private static final int SCENES = 60;
    private static final int LINES = 24, COLUMNS = 32;
    private static final int MOST_FRAMES = 40;
    private static final Due due = new Due("FirstLineTest");

    /** How a scene is made, so that there can be as many objects of it as the calls need. */
    private record Scene(int seed) {
        DotObjects object() {
            Random random = new Random(seed);
            DotObjects x = new DotObjects();
            for (int p = 0; p < 4; p++) {
                for (int r = 0; r < 8; r++) if (random.nextInt(3) > 0) x.row(p, r, random.nextInt(256));
            }
            int things = seed == 0 ? 0 : seed % 4 == 0 ? 12 : 1 + random.nextInt(12);
            int highest = random.nextInt(32) - 8, among = 1 + random.nextInt(12);
            for (int t = 0; t < things; t++) {
                int y = Math.min(highest + random.nextInt(among), 23);
                x.put(random.nextInt(40) - 8, y, random.nextInt(4), random.nextInt(4), random.nextInt(4), 1 + random.nextInt(7));
                if (seed % 3 > 0) x.speed(t, random.nextInt(17) - 8, random.nextInt(5) - 2);
            }
            x.limit(1 + random.nextInt(seed % 5 == 0 ? 8 : 4));
            x.rule(seed % 4);
            x.frame(1 + random.nextInt(40));
            return x;
        }

        int things() {
            return object().told(0);
        }

        /** What dot() tells of every DOT; two objects share the calls. */
        int[][] dots(int what) {
            int[][] dots = new int[LINES][COLUMNS];
            for (int half = 0; half < 2; half++) {
                DotObjects x = object();
                for (int line = half * 12; line < half * 12 + 12; line++) {
                    for (int column = 0; column < COLUMNS; column++) dots[line][column] = x.dot(line, column, what);
                }
            }
            return dots;
        }

        /** Where a THING HAS a dot of THE SCREEN: what is SEEN when all others are taken away. */
        boolean[][] alone(int t) {
            DotObjects x = object();
            for (int u = x.told(0) - 1; u >= 0; u--) if (u != t) x.take(u);
            boolean[][] has = new boolean[LINES][COLUMNS];
            for (int line = 0; line < LINES; line++) {
                String signs = Look.at(x, line);
                for (int column = 0; column < COLUMNS; column++) has[line][column] = signs.charAt(column) != '0';
            }
            return has;
        }
    }

    public static void main(String[] args) {
        for (int seed = 0; seed < SCENES; seed++) {
            Scene scene = new Scene(seed);
            boolean[][][] has = new boolean[scene.things()][][];
            for (int t = 0; t < has.length; t++) has[t] = scene.alone(t);
            butSoManyCanBeDrawn(scene);
            dotsToldAndLinesToldWhole(scene, has);
            whatIsMissing(scene, has);
            whatIsCovered(scene, has);
            whoMeetsWhom(scene, has);
            howOftenAndWhichMost(scene);
            whichRuleLosesLeast(scene);
            leastLimit(scene);
            fewestPlaces(scene);
            noneIsLeftOutForEver(scene);
            undone(scene);
            booksOfDotsJudged(scene);
            thingsByDraws(scene);
            imagesToGoOnFrom(scene);
        }
        mirroredAndUpsideDown();
        due.close();
    }

    private static void is(Scene scene, String what, long got, long want) {
        due.is("scene " + scene.seed + ": " + what, got, want);
    }

    private static boolean isIn(int set, int k) {
        return (set >> k) % 2 == 1;
    }

    /** On a line but so many can be drawn. */
    private static void butSoManyCanBeDrawn(Scene scene) {
        DotObjects x = scene.object();
        int limit = x.told(1);
        int[] droppedLines = new int[12];
        for (int line = 0; line < LINES; line++) {
            int on = 0;
            for (int t = 0; t < x.told(0); t++) {
                int row = line - (x.thing(t, 1) - 8);
                if (row >= 0 && row <= 7) on |= 1 << t;
            }
            x = scene.object();
            int drawn = x.drawn(line, 0), dropped = x.drawn(line, 1);
            is(scene, "drawn or dropped on line " + line, drawn + dropped, on);
            is(scene, "so many on line " + line, Integer.bitCount(drawn), Math.min(limit, Integer.bitCount(on)));
            for (int t = 0; t < 12; t++) if (isIn(dropped, t)) droppedLines[t] |= 1 << line;
        }
        for (int t = 0; t < x.told(0); t++) is(scene, "on which lines " + t + " is left out", x.thing(t, 10), droppedLines[t]);
    }

    /** Of those of a SET that HAVE a dot the one more in front, of like ones the least number; -1: none HAS it. */
    private static int front(DotObjects x, boolean[][][] has, int among, int line, int column) {
        int front = -1;
        for (int t = 0; t < has.length; t++) {
            if (!isIn(among, t) || !has[t][line][column]) continue;
            if (front < 0 || x.thing(t, 4) < x.thing(front, 4)) front = t;
        }
        return front;
    }

    private static void dotsToldAndLinesToldWhole(Scene scene, boolean[][][] has) {
        int[][] colours = scene.dots(0), things = scene.dots(1);
        DotObjects lines = scene.object();
        int filled = 0;
        for (int line = 0; line < LINES; line++) {
            StringBuilder signs = new StringBuilder();
            DotObjects x = scene.object();
            int drawn = x.drawn(line, 0);
            for (int column = 0; column < COLUMNS; column++) {
                if (column % 8 == 0) x = scene.object();
                int front = front(x, has, drawn, line, column);
                is(scene, "who is seen on " + line + " " + column, things[line][column], front);
                is(scene, "its colour on " + line + " " + column, colours[line][column], front < 0 ? 0 : x.thing(front, 5));
                signs.append(colours[line][column]);
                if (colours[line][column] != 0) filled++;
            }
            due.is("scene " + scene.seed + ": line " + line, Look.at(lines, line), signs.toString());
        }
        is(scene, "dots that are not 0", lines.told(8), filled);
    }

    /** What is missing against a picture without a limit. */
    private static void whatIsMissing(Scene scene, boolean[][][] has) {
        int[][] colours = scene.dots(0), whole = scene.dots(2);
        int missing = 0;
        for (int line = 0; line < LINES; line++) {
            DotObjects x = scene.object();
            for (int column = 0; column < COLUMNS; column++) {
                if (column % 8 == 0) x = scene.object();
                int front = front(x, has, 0xFFF, line, column);
                is(scene, "whole on " + line + " " + column, whole[line][column], front < 0 ? 0 : x.thing(front, 5));
                if (colours[line][column] != whole[line][column]) missing++;
            }
        }
        is(scene, "missing", scene.object().told(4), missing);
    }

    private static void whatIsCovered(Scene scene, boolean[][][] has) {
        int[][] things = scene.dots(1);
        DotObjects x = scene.object();
        for (int t = 0; t < has.length; t++) {
            int seen = 0, covered = 0;
            for (int line = 0; line < LINES; line++) {
                boolean isDropped = isIn(x.thing(t, 10), line);
                for (int column = 0; column < COLUMNS; column++) {
                    if (things[line][column] == t) seen++;
                    else if (has[t][line][column] && !isDropped) covered++;
                }
            }
            is(scene, "seen " + t, x.thing(t, 8), seen);
            is(scene, "covered " + t, x.thing(t, 9), covered);
        }
    }

    private static void whoMeetsWhom(Scene scene, boolean[][][] has) {
        DotObjects x = scene.object();
        for (int t = 0; t < has.length; t++) {
            int meets = 0, wouldMeet = 0;
            int dropped = x.thing(t, 10);
            for (int u = 0; u < has.length; u++) {
                if (u == t) continue;
                int droppedToo = dropped | x.thing(u, 10);
                for (int line = 0; line < LINES; line++) {
                    for (int column = 0; column < COLUMNS; column++) {
                        if (!has[t][line][column] || !has[u][line][column]) continue;
                        wouldMeet |= 1 << u;
                        if (!isIn(droppedToo, line)) meets |= 1 << u;
                    }
                }
            }
            is(scene, "whom " + t + " meets", x.thing(t, 12), meets);
            is(scene, "whom " + t + " would meet", x.thing(t, 13), wouldMeet);
        }
    }

    /** How often in so many frames, which is left out most: as it comes when the frames come. */
    private static void howOftenAndWhichMost(Scene scene) {
        int things = scene.things();
        int[][] lines = new int[MOST_FRAMES + 1][things];
        for (int first = 0; first < things; first += 6) {
            DotObjects x = scene.object();
            for (int n = 1; n <= MOST_FRAMES; n++) {
                for (int t = first; t < Math.min(first + 6, things); t++) lines[n][t] = lines[n - 1][t] + Integer.bitCount(x.thing(t, 10));
                x.frame(1);
            }
        }
        int[] frames = {1, 2, 3, 7, 12, 25, 39, 40};
        DotObjects x = scene.object();
        for (int n : frames) {
            int worst = -1;
            for (int t = 0; t < things; t++) {
                is(scene, "left out in " + n + " " + t, x.leftOut(t, n), lines[n][t]);
                if (lines[n][t] > (worst < 0 ? 0 : lines[n][worst])) worst = t;
            }
            is(scene, "worst in " + n, x.worst(n), worst);
        }
    }

    private static void whichRuleLosesLeast(Scene scene) {
        DotObjects x = scene.object();
        int told = x.told(5), best = 0;
        int[] missing = new int[4];
        for (int rule = 0; rule < 4; rule++) {
            missing[rule] = x.rule(rule);
            is(scene, "missing by rule " + rule, x.told(4), missing[rule]);
            if (missing[rule] < missing[best]) best = rule;
        }
        is(scene, "best rule", told, best);
    }

    /** The least limit by which nothing is lost. */
    private static void leastLimit(Scene scene) {
        DotObjects x = scene.object();
        int enough = x.told(6);
        for (int limit = 1; limit <= 8; limit++) {
            int missing = x.limit(limit);
            due.isTrue("scene " + scene.seed + ": by limit " + limit + " of " + enough, (x.worst(1) == -1) == (limit >= enough));
            if (limit >= enough) is(scene, "missing by limit " + limit, missing, 0);
        }
    }

    /** Places to hold things, used anew below where one has ended, the fewest of them. */
    private static void fewestPlaces(Scene scene) {
        DotObjects x = scene.object();
        int things = x.told(0), most = 0;
        int[] y = new int[things], holder = new int[things];
        for (int t = 0; t < things; t++) {
            y[t] = x.thing(t, 1) - 8;
            holder[t] = x.thing(t, 11);
        }
        for (int t = 0; t < things; t++) {
            int atOnce = 0;
            for (int u = 0; u < things; u++) {
                if (y[u] <= y[t] && y[t] <= y[u] + 7) atOnce++;
                boolean isApart = Math.abs(y[t] - y[u]) >= 8;
                due.isTrue("scene " + scene.seed + ": " + t + " and " + u + " in one holder", u == t || isApart || holder[t] != holder[u]);
            }
            most = Math.max(most, atOnce);
            due.isTrue("scene " + scene.seed + ": holder of " + t, holder[t] >= 0 && holder[t] < x.told(7));
        }
        is(scene, "the fewest", x.told(7), most);
    }

    /** One of which goes round from frame to frame, so that none is left out for ever. */
    private static void noneIsLeftOutForEver(Scene scene) {
        DotObjects x = scene.object();
        int things = x.told(0);
        x.rule(2);
        for (int t = 0; t < things; t++) x.speed(t, 0, 0);
        int[] drawn = new int[LINES], on = new int[LINES];
        for (int n = 0; n < things; n++) {
            for (int line = 0; line < LINES; line++) {
                drawn[line] |= x.drawn(line, 0);
                if (n == 0) on[line] = drawn[line] | x.drawn(line, 1);
            }
            x.frame(1);
        }
        for (int line = 0; line < LINES; line++) is(scene, "drawn in one round on line " + line, drawn[line], on[line]);
    }

    /** Of every thing all that can be told, and what is asked of all of them. */
    private static String all(DotObjects x) {
        StringBuilder all = new StringBuilder();
        int[] whats = {0, 1, 2, 3, 4, 5, 6, 7, 8};
        for (int what : whats) all.append(x.told(what)).append(' ');
        for (int t = 0; t < x.told(0); t++) all.append(Look.thing(x, t)).append(' ');
        for (int p = 0; p < 4; p++) for (int r = 0; r < 8; r++) all.append(x.pictureRow(p, r)).append(' ');
        return all.toString();
    }

    /** Pictures told row by row, things put, moved, turned, taken away, frames, undone. */
    private static void undone(Scene scene) {
        DotObjects x = scene.object();
        String before = all(x);
        x.frame(3);
        x.row(1, 2, 0x5A);
        int deeds = 2;
        if (x.told(0) > 0) {
            x.move(0, 3, 4);
            x.turn(0, 1, 2);
            x.speed(0, 1, -1);
            x.take(0);
            deeds += 4;
        }
        x.put(1, 2, 3, 1, 2, 4);
        x.limit(1);
        x.rule(3);
        deeds += 3;
        deeds += -x.told(0) + x.drift(4);
        x.undo(deeds);
        due.is("scene " + scene.seed + ": undone", all(x), before);
    }

    private static void booksOfDotsJudged(Scene scene) {
        int[][] colours = scene.dots(0);
        Random random = new Random(scene.seed);
        DotObjects x = scene.object();
        int wrong = scene.seed % 21, later = wrong + 1 + random.nextInt(20);
        for (int k = 0; k < 20; k++) {
            int line = random.nextInt(LINES), column = random.nextInt(COLUMNS);
            int other = k == wrong || k == later ? 1 + random.nextInt(7) : 0;
            is(scene, "judged ahead of entry " + k, x.told(10), k > wrong ? wrong : -1);
            x.write(line, column, colours[line][column] ^ other);
        }
        is(scene, "the first that is wrong", x.told(10), wrong < 20 ? wrong : -1);
        x.tear();
        is(scene, "without a book", x.told(10), -1);
    }

    /** So many at once are as many one by one, and each could have been put. */
    private static void thingsByDraws(Scene scene) {
        DotObjects atOnce = scene.object(), oneByOne = scene.object(), put = scene.object();
        int had = atOnce.told(0);
        atOnce.seed(scene.seed * 7919);
        oneByOne.seed(scene.seed * 7919);
        is(scene, "drift", atOnce.drift(5), Math.min(had + 5, 12));
        for (int k = 0; k < 5; k++) oneByOne.drift(1);
        for (int t = had; t < atOnce.told(0); t++) {
            int[] v = new int[6];
            for (int what = 0; what < 6; what++) v[what] = atOnce.thing(t, what);
            is(scene, "put as drawn", put.put(v[0] - 8, v[1] - 8, v[2], v[3], v[4], v[5]), t);
        }
        due.is("scene " + scene.seed + ": one by one", all(oneByOne), all(atOnce));
        due.is("scene " + scene.seed + ": put", all(put), all(atOnce));
        is(scene, "the seed behind them", oneByOne.seed(0), atOnce.seed(0));
    }

    /** Images to go on from: the same calls again, with the same answers. */
    private static void imagesToGoOnFrom(Scene scene) {
        DotObjects x = scene.object();
        x.seed(scene.seed);
        x.keep(scene.seed % 2);
        String first = goOn(x);
        x.goBack(scene.seed % 2);
        due.is("scene " + scene.seed + ": gone on from the image again", goOn(x), first);
    }

    private static String goOn(DotObjects x) {
        StringBuilder answers = new StringBuilder();
        answers.append(x.take(0)).append(' ').append(x.drift(3)).append(' ').append(x.frame(5)).append(' ');
        answers.append(x.row(0, 0, 7)).append(' ').append(x.rule(2)).append(' ').append(x.limit(2)).append(' ');
        answers.append(x.drift(12)).append(' ').append(x.worst(9)).append(' ').append(x.told(11)).append(' ');
        return answers.append(all(x)).toString();
    }

    /** Each is a little picture of dots, mirrored perhaps, upside down perhaps. */
    private static void mirroredAndUpsideDown() {
        String[][] turned = new String[4][8];
        for (int turn = 0; turn < 4; turn++) {
            DotObjects x = new DotObjects();
            for (int r = 0; r < 8; r++) x.row(2, r, r * 37 + 21 & 255);
            x.put(12, 9, 2, turn, 0, 1);
            for (int r = 0; r < 8; r++) turned[turn][r] = Look.at(x, 9 + r).substring(12, 20);
        }
        for (int r = 0; r < 8; r++) {
            due.is("mirrored", turned[1][r], new StringBuilder(turned[0][r]).reverse().toString());
            due.is("upside down", turned[2][r], turned[0][7 - r]);
            due.is("both", turned[3][r], new StringBuilder(turned[0][7 - r]).reverse().toString());
        }
    }
}
