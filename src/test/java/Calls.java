import java.util.ArrayList;
import java.util.List;

/** The calls of the face as a table: the bounds of each argument, and what is answered outside of them. */
final class Calls {
    static final int UNKNOWN = -1000000001, OUTSIDE = -1000000002, NOT = -1000000003, FULL = -1000000004;

    interface Made {
        long on(DotObjects x, int[] a);
    }

    /** A THING's most is not told here: it is one less than there are THINGS. */
    record Argument(int least, int most, boolean isThing, int refusal) {
        boolean holds(int v, int things) {
            return v >= least && v <= mostOf(things);
        }

        int mostOf(int things) {
            return isThing ? things - 1 : most;
        }

        /** The last numbers inside, the first outside, the least and the greatest int. */
        List<Integer> edges(int things) {
            List<Integer> edges = new ArrayList<>();
            int last = mostOf(things);
            int[] all = {least, last, least - 1, last + 1, Integer.MIN_VALUE, Integer.MAX_VALUE};
            for (int v : all) if (!edges.contains(v)) edges.add(v);
            return edges;
        }
    }

    /** A call that only asks changes nothing even where it is not refused. */
    record Call(String name, boolean asks, Made made, Argument... arguments) {
    }

    private static final Argument THING = new Argument(0, 0, true, UNKNOWN);
    private static final Argument PICTURE = new Argument(0, 3, false, UNKNOWN);
    private static final Argument IMAGE = new Argument(0, 1, false, UNKNOWN);
    private static final Argument LINE = within(0, 23);
    private static final Argument COLUMN = within(0, 31);
    private static final Argument X = within(-8, 31);
    private static final Argument Y = within(-8, 23);
    private static final Argument ROW = within(0, 7);
    private static final Argument TURN = within(0, 3);
    private static final Argument LEVEL = within(0, 3);
    private static final Argument SPEED = within(-8, 8);
    private static final Argument FRAMES = within(1, 40);

    static final List<Call> ALL = List.of(
        asks("told", (x, a) -> x.told(a[0]), within(0, 11)),
        asks("thing", (x, a) -> x.thing(a[0], a[1]), THING, within(0, 13)),
        asks("dot", (x, a) -> x.dot(a[0], a[1], a[2]), LINE, COLUMN, within(0, 2)),
        asks("line", (x, a) -> x.line(a[0], a[1]), LINE, within(0, 3)),
        asks("drawn", (x, a) -> x.drawn(a[0], a[1]), LINE, within(0, 1)),
        asks("pictureRow", (x, a) -> x.pictureRow(a[0], a[1]), PICTURE, ROW),
        does("row", (x, a) -> x.row(a[0], a[1], a[2]), PICTURE, ROW, within(0, 255)),
        does("put", (x, a) -> x.put(a[0], a[1], a[2], a[3], a[4], a[5]), X, Y, PICTURE, TURN, LEVEL, within(1, 7)),
        does("move", (x, a) -> x.move(a[0], a[1], a[2]), THING, X, Y),
        does("turn", (x, a) -> x.turn(a[0], a[1], a[2]), THING, TURN, LEVEL),
        does("speed", (x, a) -> x.speed(a[0], a[1], a[2]), THING, SPEED, SPEED),
        does("take", (x, a) -> x.take(a[0]), THING),
        does("limit", (x, a) -> x.limit(a[0]), within(1, 8)),
        does("rule", (x, a) -> x.rule(a[0]), within(0, 3)),
        does("frame", (x, a) -> x.frame(a[0]), FRAMES),
        does("drift", (x, a) -> x.drift(a[0]), within(1, 12)),
        does("undo", (x, a) -> x.undo(a[0]), within(1, 20)),
        asks("leftOut", (x, a) -> x.leftOut(a[0], a[1]), THING, FRAMES),
        asks("worst", (x, a) -> x.worst(a[0]), FRAMES),
        does("write", (x, a) -> x.write(a[0], a[1], a[2]), LINE, COLUMN, within(0, 7)),
        does("tear", (x, a) -> x.tear()),
        does("seed", (x, a) -> x.seed(a[0]), within(0, Integer.MAX_VALUE)),
        does("keep", (x, a) -> x.keep(a[0]), IMAGE),
        does("goBack", (x, a) -> x.goBack(a[0]), IMAGE));

    private Calls() {
    }

    private static Argument within(int least, int most) {
        return new Argument(least, most, false, OUTSIDE);
    }

    private static Call asks(String name, Made made, Argument... arguments) {
        return new Call(name, true, made, arguments);
    }

    private static Call does(String name, Made made, Argument... arguments) {
        return new Call(name, false, made, arguments);
    }
}
