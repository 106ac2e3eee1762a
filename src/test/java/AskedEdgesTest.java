import java.math.BigInteger;

/**
 * The document's section 2, sentence by sentence where they name a bound: one method for each, the sentence above it.
 * The answers are worked out by hand, or from the sentence alone.
 */
public final class AskedEdgesTest {
    private static final int NONE = -1, UNKNOWN = -1000000001, OUTSIDE = -1000000002, NOT = -1000000003, FULL = -1000000004;
    private static final Due due = new Due("AskedEdgesTest");

    public static void main(String[] args) {
        wholeIsWithoutLimit();
        missingCountsDotsOfTheScreen();
        missingByEachTwoColours();
        coveredAndSeen();
        coveredOnlyWhereDrawn();
        meetOnOneDot();
        meetOnTheScreenAlone();
        dotsBesideTheScreenAreNone();
        meetWhereBothAreDrawn();
        leftOutFromThisFrameOn();
        leftOutOnLinesOfTheScreen();
        leftOutBounds();
        worstOfLikeOnes();
        worstIsNone();
        eachRuleCanBeBest();
        bestByOneDot();
        bestOfLikeOnes();
        enoughFromOneToTwelve();
        holdersWhereOneHasEnded();
        holdersInOrder();
        holdersNoneAndAll();
        bookOfTwenty();
        wrongIsTheFirst();
        wrongIsNone();
        wrongIsNow();
        drawsByTheSeed();
        drawsStayWithinBounds();
        drawsWhileThereIsRoom();
        undoneOneByOne();
        undoneTwentyAtMost();
        undoneEachOfTheTimes();
        undoneInARing();
        whatIsNoDeed();
        undoneSinceTheImage();
        imagesKeepAll();
        imagesAreTwo();
        due.close();
    }

    private static void is(String call, long got, long want) {
        due.is(call, got, want);
    }

    private static void is(String call, String got, String want) {
        due.is(call, got, want);
    }

    /** WHOLE: the DOT if all were DRAWN. */
    private static void wholeIsWithoutLimit() {
        DotObjects x = new DotObjects();
        for (int t = 0; t < 12; t++) x.put(2 * t, 0, 0, 0, t < 11 ? 3 : 0, t % 6 + 1);
        x.limit(1);
        is("the first alone is seen", x.dot(0, 0, 0), 1);
        is("nothing is seen beside it", x.dot(0, 8, 0), 0);
        is("whole there: thing 1", x.dot(0, 8, 2), 2);
        is("whole: the twelfth, in front", x.dot(0, 22, 2), 6);
        is("whole ahead of it: thing 7", x.dot(0, 21, 2), 2);
        is("whole behind all", x.dot(0, 30, 2), 0);
        is("whole below all", x.dot(8, 0, 2), 0);
        is("whole in the last corner", x.dot(23, 31, 2), 0);
    }

    /** MISSING: how many DOTS of THE SCREEN are otherwise than WHOLE. */
    private static void missingCountsDotsOfTheScreen() {
        is("without things", new DotObjects().told(4), 0);
        DotObjects x = Look.pile(2, 0, 0);
        is("as many as the limit", x.limit(2), 0);
        is("the dropped one is covered anyway", x.limit(1), 0);
        is("now the other is dropped", x.rule(1), 64);
        x.move(0, -7, -7);
        x.move(1, -7, -7);
        is("on the screen alone", x.told(4), 1);
        x.move(0, -8, -7);
        x.move(1, -8, -7);
        is("beside it none", x.told(4), 0);
        x = Look.pile(1, 0, 0);
        x.put(0, 0, 0, 0, 3, 1);
        x.rule(1);
        is("of the same colour none is otherwise", x.limit(1), 0);
        x = new DotObjects();
        for (int t = 0; t < 12; t++) x.put(t % 4 * 8, t / 4 * 8, 0, 0, 0, 7);
        is("three of four on every line", x.limit(1), 24 * 24);
        is("one of four", x.limit(3), 24 * 8);
        is("none of four", x.limit(4), 0);
    }

    /** Otherwise than WHOLE: another COLOUR of 0 .. 7, whichever two they are. */
    private static void missingByEachTwoColours() {
        for (int front = 1; front <= 7; front++) {
            for (int behind = 0; behind <= 7; behind++) {
                DotObjects x = new DotObjects();
                x.put(31, 23, behind == 0 ? 1 : 0, 0, 3, Math.max(behind, 1));
                x.put(31, 23, 0, 0, 0, front);
                is("instead of " + front + " " + behind, x.limit(1), front == behind ? 0 : 1);
                is("both", x.limit(2), 0);
            }
        }
    }

    /** COVERED: how many dots a THING HAS on THE SCREEN where it is DRAWN and another is SEEN. SEEN: how many DOTS it is. */
    private static void coveredAndSeen() {
        DotObjects x = Look.pile(2, 0, 0);
        is("the first is seen", x.thing(0, 8), 64);
        is("and not covered", x.thing(0, 9), 0);
        is("the second is not seen", x.thing(1, 8), 0);
        is("it is covered", x.thing(1, 9), 64);
        x.put(0, 0, 0, 0, 0, 1);
        is("by one of the same colour too", x.thing(2, 9), 64);
        int[][] places = {{-7, -7, 1}, {31, 23, 1}, {-8, 0, 0}, {0, -8, 0}, {28, 0, 32}, {0, 20, 32}, {-4, -4, 16}};
        for (int[] p : places) {
            x = Look.pile(2, p[0], p[1]);
            is("seen at " + p[0] + " " + p[1], x.thing(0, 8), p[2]);
            is("covered at " + p[0] + " " + p[1], x.thing(1, 9), p[2]);
        }
        x = Look.pile(1, 0, 0);
        x.put(7, 7, 0, 0, 0, 2);
        is("all but one dot", x.thing(1, 8), 63);
        is("one dot", x.thing(1, 9), 1);
        is("turn tells the same", x.turn(1, 0, 0), 63);
        is("in front", x.turn(1, 3, 3), 63);
        is("behind", x.turn(0, 3, 3), 64);
    }

    private static void coveredOnlyWhereDrawn() {
        DotObjects x = Look.pile(1, 0, 0);
        x.put(0, 4, 0, 0, 1, 2);
        x.put(0, 8, 0, 0, 2, 3);
        x.limit(2);
        // Lines 4 .. 7 are of things 0 and 1, 8 .. 11 of things 1 and 2.
        is("thing 1 covered", x.thing(1, 9), 32);
        is("thing 1 seen", x.thing(1, 8), 32);
        is("thing 2 covered", x.thing(2, 9), 32);
        x.limit(1);
        is("dropped is not covered", x.thing(1, 9), 0);
        is("seen where drawn", x.thing(1, 8), 32);
        is("the next too", x.thing(2, 9), 0);
        is("it is seen below", x.thing(2, 8), 32);
        x.rule(1);
        // Now thing 2 is drawn on all its lines, thing 1 on 4 .. 7, thing 0 on 0 .. 3.
        is("from the last on", x.thing(2, 8) * 10000 + x.thing(1, 8) * 100 + x.thing(0, 8), 643232);
    }

    /** MEET: two THINGS both HAVE a dot: one is enough, none is not. */
    private static void meetOnOneDot() {
        int[][] places = {{8, 0, 0}, {7, 0, 2}, {0, 8, 0}, {0, 7, 2}, {7, 7, 2}, {8, 7, 0}, {7, 8, 0},
            {-8, 0, 0}, {-7, 0, 2}, {0, -8, 0}, {0, -7, 2}, {-7, -7, 2}, {-8, -7, 0}, {-7, -8, 0}};
        for (int[] p : places) {
            DotObjects x = Look.pile(1, 0, 0);
            x.put(p[0], p[1], 0, 0, 3, 1);
            is("meets at " + p[0] + " " + p[1], x.thing(0, 12), p[2]);
            is("would meet at " + p[0] + " " + p[1], x.thing(0, 13), p[2]);
            is("and the other way", x.thing(1, 12), p[2] / 2);
            is("would, and the other way", x.thing(1, 13), p[2] / 2);
        }
        DotObjects x = new DotObjects();
        x.row(1, 0, 0b11110000);
        x.put(0, 0, 1, 0, 0, 1);
        x.put(0, 0, 1, 1, 0, 2);
        is("mirrored it misses it", x.thing(0, 13), 0);
        x.turn(1, 2, 0);
        is("upside down too", x.thing(0, 13), 0);
        x.turn(1, 0, 3);
        is("as it is it meets", x.thing(0, 13), 2);
        x.row(1, 0, 0b00010000);
        is("by one bit", x.thing(0, 12), 2);
        x.row(1, 0, 0);
        is("by none", x.thing(0, 12), 0);
    }

    /** A dot of THE SCREEN. */
    private static void meetOnTheScreenAlone() {
        int[][] pairs = {{-8, 0, -8, 0, 0}, {-8, 0, -7, 0, 0}, {-7, 0, -7, 0, 2}, {31, 0, 31, 0, 2}, {24, 0, 31, 0, 2}, {23, 0, 31, 0, 0},
            {0, -8, 0, -8, 0}, {0, -8, 0, -7, 0}, {0, -7, 0, -7, 2}, {0, 23, 0, 23, 2}, {0, 16, 0, 23, 2}, {0, 15, 0, 23, 0},
            {31, 23, 31, 23, 2}, {-7, -7, -7, -7, 2}};
        for (int[] p : pairs) {
            DotObjects x = Look.pile(1, p[0], p[1]);
            x.put(p[2], p[3], 0, 0, 0, 2);
            is("meets " + java.util.Arrays.toString(p), x.thing(0, 12), p[4]);
            is("would meet " + java.util.Arrays.toString(p), x.thing(0, 13), p[4]);
        }
    }

    /** Two THINGS whose one dot lies just on THE SCREEN, or just beside it: SEEN, COVERED, MEET, WOULD MEET, MISSING. */
    private static void dotsBesideTheScreenAreNone() {
        // X, Y, the row and the bit of the one dot, and how many are on the screen.
        int[][] cases = {{0, 23, 0, 7, 1}, {0, 23, 1, 7, 0}, {0, 16, 7, 7, 1}, {0, 17, 7, 7, 0}, {0, -7, 7, 7, 1}, {0, -7, 6, 7, 0}, {0, -8, 7, 7, 0},
            {31, 0, 0, 7, 1}, {31, 0, 0, 6, 0}, {24, 0, 0, 0, 1}, {25, 0, 0, 0, 0}, {-7, 0, 0, 0, 1}, {-7, 0, 0, 1, 0}, {-8, 0, 0, 0, 0}};
        for (int[] c : cases) {
            DotObjects x = new DotObjects();
            x.row(1, c[2], 1 << c[3]);
            x.put(c[0], c[1], 1, 0, 0, 1);
            x.put(c[0], c[1], 1, 0, 1, 2);
            String told = java.util.Arrays.toString(c) + " ";
            is(told + "dots", x.told(8), c[4]);
            is(told + "seen", x.thing(0, 8), c[4]);
            is(told + "covered", x.thing(1, 9), c[4]);
            is(told + "meets", x.thing(0, 12), 2 * c[4]);
            is(told + "would meet", x.thing(1, 13), c[4]);
            x.limit(1);
            is(told + "meets no more", x.thing(0, 12), 0);
            is(told + "would meet still", x.thing(0, 13), 2 * c[4]);
            is(told + "missing", x.rule(1), c[4]);
        }
    }

    /** On a LINE where both are DRAWN; WOULD MEET: whether DRAWN or not. */
    private static void meetWhereBothAreDrawn() {
        DotObjects x = Look.pile(1, 0, 0);
        x.put(0, 4, 0, 0, 0, 2);
        x.put(0, 7, 0, 0, 0, 3);
        int[][] meets = {{0, 0, 0}, {2, 5, 2}, {6, 5, 3}};
        for (int v = 1; v <= 3; v++) {
            // By limit 2 line 7 is of things 0 and 1, lines 8 .. 11 are of things 1 and 2.
            x.limit(v);
            for (int t = 0; t < 3; t++) {
                is("limit " + v + ": thing " + t + " meets", x.thing(t, 12), meets[v - 1][t]);
                is("limit " + v + ": thing " + t + " would meet", x.thing(t, 13), 7 - (1 << t));
            }
        }
    }

    /** LEFT OUT in n FRAMES (1 .. 40, from this one on): on how many LINES, together, a THING is DROPPED. */
    private static void leftOutFromThisFrameOn() {
        DotObjects x = Look.pile(1, 0, 0);
        x.put(0, -8, 0, 0, 0, 2);
        x.speed(1, 0, 1);
        x.limit(1);
        // Thing 1 comes down over thing 0: 0, 1 .. 8, 7 .. 1 lines, then 0 for 17 frames, and round again.
        int[][] want = {{1, 0}, {2, 1}, {3, 3}, {9, 36}, {10, 43}, {16, 64}, {17, 64}, {33, 64}, {34, 65}, {39, 85}, {40, 92}};
        for (int[] w : want) {
            is("in " + w[0] + " frames", x.leftOut(1, w[0]), w[1]);
            is("the other", x.leftOut(0, w[0]), 0);
            is("worst in " + w[0], x.worst(w[0]), w[1] == 0 ? NONE : 1);
        }
        is("nothing has changed", x.told(3) * 10000 + Look.place(x, 1), 800);
        x.frame(8);
        is("from this one on", x.leftOut(1, 1), 8);
        is("and the next", x.leftOut(1, 2), 15);
        is("past it", x.leftOut(1, 8), 36);
    }

    /** On how many LINES: those there are. */
    private static void leftOutOnLinesOfTheScreen() {
        for (int y = -8; y <= 23; y++) {
            DotObjects x = Look.pile(5, 0, y);
            int lines = Math.min(8, Math.min(y + 8, 24 - y));
            is("left out at " + y, x.leftOut(4, 1), lines);
            is("left out at " + y + " in forty", x.leftOut(4, 40), 40 * lines);
            is("dropped lines at " + y, Integer.bitCount(x.thing(4, 10)), lines);
            is("worst at " + y, x.worst(1), y == -8 ? NONE : 4);
        }
    }

    private static void leftOutBounds() {
        DotObjects x = Look.pile(12, 0, 0);
        x.limit(1);
        is("all lines, forty frames", x.leftOut(11, 40), 320);
        is("the least", x.leftOut(11, 1), 8);
        int[] outside = {0, -1, 41, Integer.MIN_VALUE, Integer.MAX_VALUE};
        for (int n : outside) {
            is("leftOut in " + n, x.leftOut(0, n), OUTSIDE);
            is("worst in " + n, x.worst(n), OUTSIDE);
            is("leftOut of none in " + n, x.leftOut(12, n), UNKNOWN);
        }
        is("of none", x.leftOut(12, 1), UNKNOWN);
        is("of none, below", x.leftOut(-1, 40), UNKNOWN);
    }

    /** WORST in n FRAMES: the THING that is LEFT OUT most; of like ones the least. */
    private static void worstOfLikeOnes() {
        DotObjects x = Look.pile(12, 0, 0);
        is("4 .. 11 alike", x.worst(1), 4);
        x.rule(1);
        is("0 .. 7 alike", x.worst(40), 0);
        x.rule(2);
        is("in a whole ring all are alike", x.worst(12), 0);
        // Three rings, and four frames from things 0, 1, 2, 3 on: 7 .. 11 are left out in each of them.
        is("in three rings and four frames", x.worst(40), 7);
        is("thing 7", x.leftOut(7, 40), (24 + 4) * 8);
        is("thing 3", x.leftOut(3, 40), 24 * 8);
        x.rule(0);
        x.move(4, 0, 1);
        is("one line less", x.worst(1), 5);
        x.move(4, 0, 0);
        for (int t = 4; t < 11; t++) x.move(t, 0, -7);
        is("the last is the worst", x.worst(1), 11);
    }

    /** NONE: none is. */
    private static void worstIsNone() {
        DotObjects x = new DotObjects();
        is("without things", x.worst(1), NONE);
        is("without things, forty", x.worst(40), NONE);
        x = Look.pile(4, 0, 0);
        is("as many as the limit", x.worst(40), NONE);
        x.put(0, 8, 0, 0, 0, 1);
        is("one below", x.worst(40), NONE);
        x.move(4, 0, 7);
        is("one line", x.worst(40), 4);
        x.move(4, 0, -8);
        is("above the screen", x.worst(40), NONE);
    }

    /** BEST RULE: the RULE by which least is MISSING now. */
    private static void eachRuleCanBeBest() {
        // One of three is drawn, and only one has dots: its number, its level (the others' is 2), the rule that draws it alone.
        int[][] cases = {{0, 3, 0}, {2, 3, 1}, {1, 3, 2}, {1, 0, 3}};
        for (int[] c : cases) {
            DotObjects x = new DotObjects();
            for (int t = 0; t < 3; t++) x.put(0, 0, t == c[0] ? 0 : 1, 0, t == c[0] ? c[1] : 2, 1);
            x.limit(1);
            // In frame 1 the ring begins with thing 1.
            if (c[2] == 2) x.frame(1);
            is("best is " + c[2], x.told(5), c[2]);
            is("it is missing nothing", x.rule(c[2]), 0);
            for (int rule = 0; rule < 4; rule++) {
                x.rule(rule);
                is("whatever the rule is", x.told(5), c[2]);
                is("asking leaves the rule", x.told(2), rule);
            }
        }
    }

    /** Least is MISSING: by a single DOT. */
    private static void bestByOneDot() {
        // Of two things side by side: which has a dot more, the frame, the level of thing 1 (of thing 0 it is 2), the best rule.
        int[][] cases = {{0, 0, 3, 0}, {1, 0, 3, 1}, {1, 1, 3, 1}, {1, 0, 0, 1}};
        for (int[] c : cases) {
            DotObjects x = new DotObjects();
            x.row(1, 0, 0b10000000);
            x.row(2, 0, 0b11000000);
            x.put(0, 0, c[0] == 0 ? 2 : 1, 0, 2, 1);
            x.put(8, 0, c[0] == 1 ? 2 : 1, 0, c[2], 1);
            if (c[1] == 1) x.frame(1);
            x.limit(1);
            is("best by one dot", x.told(5), c[3]);
        }
        DotObjects x = new DotObjects();
        x.row(1, 0, 0b10000000);
        x.row(2, 0, 0b11000000);
        int[] pictures = {1, 2, 1};
        for (int t = 0; t < 3; t++) x.put(8 * t, 0, pictures[t], 0, t == 1 ? 1 : 0, 1);
        x.limit(1);
        is("0, 1, 2 and 3 alike", x.told(5), 0);
        x.frame(1);
        is("2 by one dot", x.told(5), 2);
        x.frame(2);
        x.turn(0, 0, 2);
        x.turn(2, 0, 3);
        is("3 by one dot", x.told(5), 3);
    }

    /** Of like ones the least. */
    private static void bestOfLikeOnes() {
        is("without things", new DotObjects().told(5), 0);
        DotObjects x = Look.pile(4, 0, 0);
        is("nothing missing by any", x.told(5), 0);
        x = new DotObjects();
        x.put(0, 0, 1, 0, 3, 1);
        x.put(0, 0, 0, 0, 0, 1);
        x.limit(1);
        x.frame(1);
        is("1, 2 and 3 alike", x.told(5), 1);
        x.frame(1);
        is("1 and 3 alike", x.told(5), 1);
        x.put(0, 0, 1, 0, 3, 1);
        x.frame(2);
        // FRAME 4 left over by 3 is 1: thing 1 by rules 2 and 3, the empty ones by 0 and 1.
        is("2 and 3 alike", x.told(5), 2);
        x.frame(1);
        is("now 3 alone", x.told(5), 3);
        x.limit(3);
        is("all alike", x.told(5), 0);
    }

    /** ENOUGH: the least LIMIT (1 .. 12) by which nothing is DROPPED now (1 without THINGS). */
    private static void enoughFromOneToTwelve() {
        is("without things", new DotObjects().told(6), 1);
        for (int n = 1; n <= 12; n++) {
            is(n + " on line 0", Look.pile(n, 0, -7).told(6), n);
            is(n + " on line 23", Look.pile(n, 0, 23).told(6), n);
            is(n + " above", Look.pile(n, 0, -8).told(6), 1);
            is(n + " beside", Look.pile(n, -8, 0).told(6), n);
        }
        DotObjects x = Look.pile(2, 0, 0);
        x.move(1, 0, 8);
        is("one below the other", x.told(6), 1);
        x.move(1, 0, 7);
        is("on one line", x.told(6), 2);
        x.limit(1);
        x.rule(3);
        is("whatever limit and rule are", x.told(6), 2);
        x.speed(1, 0, 1);
        x.frame(1);
        is("now", x.told(6), 1);
        x = Look.pile(12, 0, 0);
        x.limit(8);
        is("more than a limit can be", x.told(6), 12);
        is("though twelve is none", x.limit(12), OUTSIDE);
    }

    /** One that never was used, or whose THING has ended (its Y and 8 is Y of this one, or less). */
    private static void holdersWhereOneHasEnded() {
        int[][] pairs = {{0, 8, 0}, {0, 7, 1}, {0, 9, 0}, {-8, 0, 0}, {-8, -1, 1}, {-8, -8, 1}, {15, 23, 0}, {16, 23, 1}, {23, 23, 1}, {-8, 23, 0}};
        for (int[] p : pairs) {
            DotObjects x = Look.pile(1, 0, p[0]);
            x.put(0, p[1], 0, 0, 0, 1);
            is("holder of y " + p[1] + " behind y " + p[0], x.thing(1, 11), p[2]);
            is("the first", x.thing(0, 11), 0);
            is("used", x.told(7), p[2] + 1);
        }
        DotObjects x = new DotObjects();
        int[] chain = {-8, 0, 8, 16};
        for (int y : chain) x.put(0, y, 0, 0, 0, 1);
        is("four in one", x.told(7), 1);
        x.put(0, 23, 0, 0, 0, 1);
        is("16 has not ended by 23", x.thing(4, 11), 1);
    }

    /** In the order of Y, of like ones of number, each gets the least HOLDER that is free. */
    private static void holdersInOrder() {
        DotObjects x = new DotObjects();
        int[] ys = {9, 0, 0, 1, 8, 23};
        for (int y : ys) x.put(0, y, 0, 0, 0, 1);
        // By Y: 1 and 2 (0), 3 (1), 4 (8, anew in 0), 0 (9: 1 and 2 are free), 5 (23: all are free).
        int[] want = {1, 0, 1, 2, 0, 0};
        for (int t = 0; t < ys.length; t++) is("holder of " + t, x.thing(t, 11), want[t]);
        is("used", x.told(7), 3);
        x.move(1, 0, 2);
        // Now 2 (0), 3 (1), 1 (2), 4 (8), 0 (9), 5 (23).
        int[] then = {1, 2, 0, 1, 0, 0};
        for (int t = 0; t < ys.length; t++) is("then of " + t, x.thing(t, 11), then[t]);
        x.move(5, 0, 10);
        is("the third is free", x.thing(5, 11), 2);
        x.move(5, 0, 9);
        is("the third is not", x.thing(5, 11), 3);
        is("used then", x.told(7), 4);
    }

    /** How many are used. */
    private static void holdersNoneAndAll() {
        is("without things", new DotObjects().told(7), 0);
        for (int n = 1; n <= 12; n++) {
            DotObjects x = Look.pile(n, 0, n - 9);
            is(n + " at once", x.told(7), n);
            is("the last", x.thing(n - 1, 11), n - 1);
            is("the first", x.thing(0, 11), 0);
        }
        DotObjects x = Look.pile(6, 0, 0);
        for (int t = 0; t < 6; t++) x.put(0, 8, 0, 0, 0, 1);
        is("six and six below", x.told(7), 6);
        is("the twelfth", x.thing(11, 11), 5);
        x.take(0);
        is("five and six below", x.told(7), 6);
    }

    /** THE BOOK (20 at most) tells COLOUR (0 .. 7) of a DOT. */
    private static void bookOfTwenty() {
        DotObjects x = new DotObjects();
        for (int n = 1; n <= 20; n++) {
            is("write " + n, x.write(23, 31, 0), n);
            is("entries " + n, x.told(9), n);
        }
        is("write 21", x.write(0, 0, 7), FULL);
        is("all right still", x.told(10), NONE);
        is("outside ahead of full", x.write(24, 0, 0), OUTSIDE);
        is("entries", x.told(9), 20);
        is("tear", x.tear(), 20);
        is("none", x.told(9), 0);
        is("tear none", x.tear(), 0);
        is("write again", x.write(0, 0, 7), 1);
        is("from the first on", x.told(10), 0);
        int[] outside = {-1, 8, Integer.MIN_VALUE, Integer.MAX_VALUE};
        for (int colour : outside) is("colour " + colour, x.write(0, 0, colour), OUTSIDE);
        for (int colour = 0; colour <= 7; colour++) is("colour " + colour, x.write(0, 0, colour), colour + 2);
    }

    /** WRONG: the first that is otherwise now. */
    private static void wrongIsTheFirst() {
        for (int wrong = 0; wrong < 20; wrong++) {
            DotObjects x = Look.pile(1, 24, 16);
            for (int k = 0; k < 20; k++) x.write(23, 12 + k, k < wrong ? (k < 12 ? 0 : 1) : 7);
            is("wrong", x.told(10), wrong);
        }
        DotObjects x = Look.pile(5, 0, 0);
        x.move(4, 8, 0);
        x.write(0, 8, 5);
        is("what is dropped is not seen", x.told(10), 0);
        x.limit(5);
        is("what is drawn is", x.told(10), NONE);
    }

    /** NONE, where none is. */
    private static void wrongIsNone() {
        DotObjects x = new DotObjects();
        is("without a book", x.told(10), NONE);
        x.write(0, 0, 0);
        x.write(23, 31, 0);
        is("no colour where nothing is", x.told(10), NONE);
        x.write(0, 0, 1);
        is("the third", x.told(10), 2);
        x.tear();
        is("torn", x.told(10), NONE);
    }

    /** Otherwise now: THE BOOK stays, what it is judged by does not. */
    private static void wrongIsNow() {
        DotObjects x = Look.pile(1, 0, 0);
        x.speed(0, 1, 0);
        x.keep(0);
        x.write(0, 0, 1);
        x.write(0, 8, 0);
        is("right", x.told(10), NONE);
        x.frame(1);
        is("moved on", x.told(10), 0);
        x.undo(1);
        is("undone", x.told(10), NONE);
        x.take(0);
        is("taken away", x.told(10), 0);
        x.goBack(0);
        is("gone back", x.told(10), NONE);
        is("the book has stayed", x.told(9), 2);
        x.frame(40);
        is("a whole round", x.told(10), NONE);
    }

    private static final BigInteger TWO_TO_THE_31 = BigInteger.TWO.pow(31);

    private static BigInteger nextSeed(BigInteger seed) {
        return seed.multiply(BigInteger.valueOf(1103515245)).add(BigInteger.valueOf(12345)).mod(TWO_TO_THE_31);
    }

    private static int draw(BigInteger seed, int n) {
        return seed.divide(BigInteger.valueOf(65536)).mod(BigInteger.valueOf(n)).intValue();
    }

    /** It becomes it times 1103515245 and 12345, left over by 2 to the 31; the DRAW of n is it / 65536, left over by n. */
    private static void drawsByTheSeed() {
        int[] of = {32, 24, 4, 4, 4, 7};
        int[] seeds = {0, 1, 2, 65535, 65536, 1073741823, 1073741824, 2147483646, 2147483647, 1103515245, 123456789};
        for (int start : seeds) {
            DotObjects x = new DotObjects();
            x.seed(start);
            x.drift(12);
            BigInteger seed = BigInteger.valueOf(start);
            for (int t = 0; t < 12; t++) {
                for (int k = 0; k < 6; k++) {
                    seed = nextSeed(seed);
                    is("seed " + start + " thing " + t + " " + k, x.thing(t, k), draw(seed, of[k]) + (k < 2 ? 8 : k == 5 ? 1 : 0));
                }
            }
            is("the seed behind them", x.seed(0), seed.longValue());
        }
        DotObjects x = new DotObjects();
        x.drift(1);
        // From 0 the first is 12345, which is less than 65536.
        is("the first draw of a new object", x.thing(0, 0), 8);
    }

    /** A DRAW of 32 (X), of 24 (Y), of 4, of 4, of 4, of 7 (and 1): each of them comes, and no other. */
    private static void drawsStayWithinBounds() {
        int[] most = {39, 31, 3, 3, 3, 7};
        int[] least = {8, 8, 0, 0, 0, 1};
        boolean[][] came = new boolean[6][40];
        for (int start = 0; start < 60; start++) {
            DotObjects x = new DotObjects();
            x.seed(start * 35791393);
            x.drift(12);
            for (int t = 0; t < 12; t++) for (int k = 0; k < 6; k++) came[k][x.thing(t, k)] = true;
        }
        for (int k = 0; k < 6; k++) {
            for (int v = 0; v < 40; v++) due.isTrue("draw " + k + " is " + v, came[k][v] == (v >= least[k] && v <= most[k]));
        }
    }

    /** n times, while there is room. */
    private static void drawsWhileThereIsRoom() {
        for (int had = 0; had <= 12; had++) {
            for (int n = 1; n <= 12; n++) {
                DotObjects x = Look.pile(had, 0, 0);
                int room = Math.min(n, 12 - had);
                is(n + " more than " + had, x.drift(n), had + room);
                is("deeds", x.told(11), had + room);
                BigInteger seed = BigInteger.ZERO;
                for (int k = 0; k < 6 * room; k++) seed = nextSeed(seed);
                is("six draws each", x.seed(0), seed.longValue());
            }
        }
        int[] outside = {0, -1, 13, Integer.MIN_VALUE, Integer.MAX_VALUE};
        DotObjects x = new DotObjects();
        for (int n : outside) is("drift " + n, x.drift(n), OUTSIDE);
        is("no draw", x.seed(0), 0);
    }

    /** UNDONE: the latest deeds: all of section 1 is as ahead of them; THE SEED stays. */
    private static void undoneOneByOne() {
        DotObjects x = Look.pile(2, 1, 2);
        String first = Look.thing(x, 0);
        x.row(3, 7, 255);
        is("row", x.undo(1) * 1000 + x.pictureRow(3, 7), 2000);
        x.put(0, 0, 0, 0, 0, 1);
        is("put", x.undo(1), 2);
        x.move(0, 31, 23);
        x.undo(1);
        is("move", Look.thing(x, 0), first);
        x.turn(0, 3, 3);
        x.undo(1);
        is("turn", Look.thing(x, 0), first);
        x.speed(0, -8, 8);
        x.undo(1);
        is("speed", Look.thing(x, 0), first);
        x.speed(1, 1, 1);
        x.take(0);
        is("take", x.undo(1), 2);
        is("the one taken", Look.thing(x, 0), first);
        is("the other", Look.speed(x, 1), 909);
        x.limit(8);
        x.undo(1);
        is("limit", x.told(1), 4);
        x.rule(3);
        x.undo(1);
        is("rule", x.told(2), 0);
        x.frame(40);
        x.undo(1);
        is("frame", x.told(3), 0);
        is("what went", Look.place(x, 1), 910);
        x.drift(1);
        x.undo(1);
        is("one by draws", x.told(0), 2);
        due.isTrue("the seed stays", x.seed(0) != 0);
        is("what is left to be undone", x.told(11), 3);
    }

    /** 20 at most are kept. */
    private static void undoneTwentyAtMost() {
        DotObjects x = new DotObjects();
        for (int k = 1; k <= 25; k++) {
            x.row(0, 0, k);
            is("kept", x.told(11), Math.min(k, 20));
        }
        is("undo 21", x.undo(21), OUTSIDE);
        is("undo 20", x.undo(20), 0);
        is("as ahead of them", x.pictureRow(0, 0), 5);
        is("the older ones can't be undone", x.undo(1), NOT);
        is("none is left", x.told(11), 0);
        for (int k = 1; k <= 19; k++) x.row(0, 1, k);
        is("one too many", x.undo(20), NOT);
        is("nothing has changed", x.pictureRow(0, 1), 19);
        x.row(0, 1, 20);
        is("now there are so many", x.undo(20), 0);
        is("all undone", x.pictureRow(0, 1), 255);
    }

    /** Each of the times BY DRAWS is a deed, n times NEXT FRAME are one. */
    private static void undoneEachOfTheTimes() {
        DotObjects x = new DotObjects();
        x.drift(12);
        is("twelve", x.told(11), 12);
        for (int left = 11; left >= 0; left--) is("undo one", x.undo(1), left);
        is("none is left", x.undo(1), NOT);
        x.drift(12);
        is("undo all at once", x.undo(12), 0);
        x = Look.pile(1, 0, 0);
        x.speed(0, 1, 1);
        x.frame(40);
        is("three deeds", x.told(11), 3);
        x.undo(1);
        is("all frames undone", x.told(3) * 10000 + Look.place(x, 0), 808);
        x = Look.pile(10, 0, 0);
        x.drift(12);
        is("two had room", x.told(11), 12);
        x.drift(12);
        is("none had room", x.told(11), 12);
        is("undo those of the first", x.undo(2), 10);
    }

    /** Deeds and what undoes them in turn, many times as many as are kept. */
    private static void undoneInARing() {
        DotObjects x = new DotObjects();
        int[] values = new int[200];
        int now = 0, kept = 0;
        for (int k = 0; k < 150; k++) {
            values[++now] = k % 256;
            x.row(1, 0, k % 256);
            kept = Math.min(kept + 1, 20);
            int back = k % 7 == 6 ? 1 + k % 4 : k % 50 == 49 ? Math.min(kept, 20) : 0;
            if (back > 0) {
                is("undo " + back + " behind " + k, x.undo(back), 0);
                now -= back;
                kept -= back;
                is("row behind " + k, x.pictureRow(1, 0), values[now]);
            }
            is("kept behind " + k, x.told(11), kept);
        }
    }

    /** The deeds are those that are named: no other call is one, nor one that is refused. */
    private static void whatIsNoDeed() {
        DotObjects x = Look.pile(3, 0, 0);
        x.write(0, 0, 7);
        x.tear();
        x.write(0, 0, 1);
        x.seed(9);
        x.told(5);
        x.leftOut(2, 40);
        x.worst(40);
        x.row(4, 0, 0);
        x.put(32, 0, 0, 0, 0, 1);
        x.move(3, 0, 0);
        x.turn(0, 4, 0);
        x.speed(0, 9, 0);
        x.take(3);
        x.limit(9);
        x.rule(4);
        x.frame(41);
        x.drift(13);
        x.undo(4);
        x.keep(2);
        x.goBack(0);
        is("three deeds", x.told(11), 3);
        is("undo is none itself", x.undo(1) * 100 + x.told(11), 202);
        is("the book stays", x.told(9), 1);
        is("the seed stays", x.seed(0), 9);
        x.move(0, 0, 0);
        x.limit(4);
        x.rule(0);
        is("a deed that changes nothing is one", x.told(11), 5);
    }

    /** Since the IMAGE. */
    private static void undoneSinceTheImage() {
        DotObjects x = Look.pile(3, 0, 0);
        x.keep(0);
        is("nothing since it was kept", x.undo(1), NOT);
        is("none", x.told(11), 0);
        x.take(0);
        is("one since", x.undo(2), NOT);
        is("undone", x.undo(1), 3);
        x.take(0);
        x.goBack(0);
        is("nothing since it was gone back to", x.undo(1), NOT);
        is("what is so", x.told(0), 3);
        x.take(0);
        is("a refused one", x.goBack(1), NOT);
        is("leaves what can be undone", x.undo(1), 3);
        for (int k = 0; k < 20; k++) x.limit(k % 8 + 1);
        is("twenty since", x.undo(20), 3);
        is("as in the image", x.told(1), 4);
        x.limit(1);
        x.keep(1);
        is("nothing since the other", x.undo(1), NOT);
    }

    /** IMAGES keep all of section 1, THE SEED. */
    private static void imagesKeepAll() {
        DotObjects x = new DotObjects();
        is("an image of no things", x.keep(1), 1);
        x.seed(2147483647);
        x.drift(12);
        for (int t = 0; t < 12; t++) x.speed(t, t - 8, 8 - t);
        x.row(0, 0, 0);
        x.row(3, 7, 255);
        x.limit(8);
        x.rule(3);
        x.frame(40);
        String[] before = new String[12];
        for (int t = 0; t < 12; t++) before[t] = Look.thing(x, t);
        is("an image of twelve", x.keep(0), 1);
        int seed = x.seed(4);
        is("back to no things", x.goBack(1), 1);
        is("none", x.told(0) * 1000 + x.told(1) * 100 + x.told(2) * 10 + x.told(3), 400);
        is("pictures as at first", x.pictureRow(0, 0) * 1000 + x.pictureRow(3, 7), 255000);
        is("the seed as it was", x.seed(5), 0);
        is("the first is the first", x.put(0, 0, 0, 0, 0, 1), 0);
        is("and to the twelve", x.goBack(0), 1);
        for (int t = 0; t < 12; t++) is("thing " + t, Look.thing(x, t), before[t]);
        is("all", x.told(0) * 10000 + x.told(1) * 1000 + x.told(2) * 100 + x.told(3), 128340);
        is("pictures", x.pictureRow(0, 0) * 1000 + x.pictureRow(3, 7), 255);
        is("the seed", x.seed(0), seed);
    }

    /** IMAGES 0, 1: each by itself, kept anew, gone back to again and again. */
    private static void imagesAreTwo() {
        DotObjects x = new DotObjects();
        is("0 is not kept", x.goBack(0), NOT);
        is("1 is not kept", x.goBack(1), NOT);
        is("there is no 2", x.goBack(2), UNKNOWN);
        is("nor one below", x.goBack(-1), UNKNOWN);
        x.limit(1);
        x.keep(1);
        is("0 is not kept yet", x.goBack(0), NOT);
        x.limit(2);
        x.keep(0);
        x.limit(3);
        for (int k = 0; k < 3; k++) {
            x.goBack(1);
            is("image 1", x.told(1), 1);
            x.limit(7);
            x.goBack(0);
            is("image 0", x.told(1), 2);
            x.limit(8);
        }
        x.keep(1);
        x.goBack(0);
        is("image 0 is as it was", x.told(1), 2);
        x.goBack(1);
        is("image 1 is kept anew", x.told(1), 8);
        is("keep 2", x.keep(2), UNKNOWN);
        is("keep -1", x.keep(-1), UNKNOWN);
        is("keep least", x.keep(Integer.MIN_VALUE), UNKNOWN);
        is("keep most", x.keep(Integer.MAX_VALUE), UNKNOWN);
    }
}
