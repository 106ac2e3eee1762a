import java.util.ArrayList;
import java.util.Arrays;
import java.util.List;
import java.util.function.Consumer;

/**
 * Every call of the face in several states, with each argument at the last number inside its bounds and at the first
 * outside, the least and the greatest int: one or two arguments at a time, and all at once. What is due is read off the
 * table in Calls; behind each refused call, and each that only asks, all must be as it is without the call.
 */
public final class RefusalsTest {
    /** How an object is brought to where the calls are tried, and what a refusal there hangs on. */
    private record State(String name, Consumer<DotObjects> made, int things, int deeds, int entries, int images) {
        DotObjects object() {
            DotObjects x = new DotObjects();
            made.accept(x);
            return x;
        }
    }

    private static final int MOST_DEEDS = 20;
    private static final Due due = new Due("RefusalsTest");

    public static void main(String[] args) {
        List<State> states = List.of(
            new State("new", x -> { }, 0, 0, 0, 0),
            new State("one thing", RefusalsTest::makeOne, 1, 1, 1, 0),
            new State("five things", RefusalsTest::makeFive, 5, 9, 3, 1),
            new State("eleven things, nearly full", RefusalsTest::makeNearlyFull, 11, 19, 19, 2),
            new State("full", RefusalsTest::makeFull, 12, 20, 20, 3));
        for (State state : states) {
            checkState(state);
            List<long[]> without = look(state, x -> { });
            for (Calls.Call call : Calls.ALL) {
                for (int[] arguments : tuples(call, state)) checkCall(state, without, call, arguments);
            }
        }
        due.close();
    }

    private static void makeOne(DotObjects x) {
        x.put(3, 4, 0, 1, 2, 5);
        x.write(4, 3, 5);
    }

    private static void makeFive(DotObjects x) {
        x.row(1, 0, 129);
        x.seed(77);
        x.keep(0);
        for (int t = 0; t < 5; t++) x.put(6 * t - 8, 3 * t - 7, t % 2, t % 4, 3 - t % 4, t + 1);
        x.speed(4, -3, 8);
        x.limit(2);
        x.rule(2);
        x.frame(3);
        writeRightEntries(x, 3);
    }

    private static void makeNearlyFull(DotObjects x) {
        x.seed(1);
        x.drift(10);
        x.keep(1);
        x.drift(1);
        x.limit(1);
        x.keep(1);
        for (int t = 0; t < 11; t++) x.speed(t, t - 5, 5 - t);
        for (int r = 0; r < 8; r++) x.row(2, r, 1 << r);
        writeRightEntries(x, 19);
    }

    private static void makeFull(DotObjects x) {
        x.row(2, 3, 60);
        x.put(0, 0, 2, 0, 0, 1);
        x.keep(0);
        x.seed(2147483647);
        x.drift(3);
        x.frame(2);
        x.keep(1);
        x.drift(12);
        for (int t = 0; t < 12; t++) x.speed(t, t - 4, 4 - t);
        x.limit(3);
        x.rule(3);
        x.frame(40);
        writeRightEntries(x, 20);
    }

    /** Entries that are all right now: one of them changed would be WRONG. */
    private static void writeRightEntries(DotObjects x, int n) {
        for (int k = 0; k < n; k++) x.write(k, (k * 7 + 3) % 32, x.dot(k, (k * 7 + 3) % 32, 0));
    }

    private static void checkState(State state) {
        DotObjects x = state.object();
        due.is(state.name + ": things", x.told(0), state.things);
        due.is(state.name + ": deeds", x.told(11), state.deeds);
        due.is(state.name + ": entries", x.told(9), state.entries);
        due.is(state.name + ": wrong", x.told(10), -1);
    }

    /** One or two arguments at any edge while the others are inside, and all of them outside. */
    private static List<int[]> tuples(Calls.Call call, State state) {
        Calls.Argument[] arguments = call.arguments();
        int n = arguments.length;
        int[] inside = new int[n];
        for (int k = 0; k < n; k++) inside[k] = arguments[k].least();
        List<int[]> tuples = new ArrayList<>();
        tuples.add(inside);
        for (int j = 0; j < n; j++) {
            for (int v : arguments[j].edges(state.things)) {
                tuples.add(with(inside, j, v));
                for (int k = j + 1; k < n; k++) {
                    for (int w : arguments[k].edges(state.things)) tuples.add(with(with(inside, j, v), k, w));
                }
            }
        }
        int[] below = new int[n], above = new int[n];
        Arrays.fill(below, Integer.MIN_VALUE);
        Arrays.fill(above, Integer.MAX_VALUE);
        tuples.add(below);
        tuples.add(above);
        return tuples;
    }

    private static int[] with(int[] tuple, int k, int v) {
        int[] other = tuple.clone();
        other[k] = v;
        return other;
    }

    private static void checkCall(State state, List<long[]> without, Calls.Call call, int[] arguments) {
        String told = state.name + ": " + call.name() + Arrays.toString(arguments);
        long answer = call.made().on(state.object(), arguments);
        long refusal = refusal(state, call, arguments);
        if (refusal != 0) due.is(told, answer, refusal);
        else due.isTrue(told + " is not refused, but answered " + answer, answer >= (call.name().equals("line") ? 0 : -1));
        if (refusal != 0 || call.asks()) {
            List<long[]> behind = look(state, x -> call.made().on(x, arguments));
            for (int k = 0; k < without.size(); k++) {
                due.isTrue(told + " changes nothing that look " + k + " sees", Arrays.equals(behind.get(k), without.get(k)));
            }
        }
    }

    /** 0: the call is met. */
    private static long refusal(State state, Calls.Call call, int[] arguments) {
        boolean outside = false;
        for (int k = 0; k < arguments.length; k++) {
            Calls.Argument bounds = call.arguments()[k];
            boolean holds = bounds.holds(arguments[k], state.things);
            if (!holds && bounds.refusal() == Calls.UNKNOWN) return Calls.UNKNOWN;
            outside |= !holds;
        }
        if (outside) return call.name().equals("line") ? -1 : Calls.OUTSIDE;
        switch (call.name()) {
            case "put": return state.things == 12 ? Calls.FULL : 0;
            case "write": return state.entries == 20 ? Calls.FULL : 0;
            case "undo": return arguments[0] > state.deeds ? Calls.NOT : 0;
            case "goBack": return (state.images >> arguments[0]) % 2 == 0 ? Calls.NOT : 0;
            default: return 0;
        }
    }

    /** All there is, each look with an object of its own: now, behind so many undone, in each IMAGE, in THE BOOK. */
    private static List<long[]> look(State state, Consumer<DotObjects> call) {
        List<long[]> looks = new ArrayList<>();
        for (int n = 0; n <= MOST_DEEDS; n++) {
            DotObjects x = state.object();
            call.accept(x);
            looks.add(all(x, n == 0 ? 0 : x.undo(n)));
        }
        for (int i = 0; i < 2; i++) {
            DotObjects x = state.object();
            call.accept(x);
            looks.add(all(x, x.goBack(i)));
        }
        return looks;
    }

    private static long[] all(DotObjects x, long first) {
        long[] all = new long[138];
        int n = 0;
        all[n++] = first;
        int[] whats = {0, 1, 2, 3, 9, 10, 11};
        for (int what : whats) all[n++] = x.told(what);
        for (int p = 0; p < 4; p++) for (int r = 0; r < 8; r++) all[n++] = x.pictureRow(p, r);
        for (int t = 0; t < 12; t++) for (int what = 0; what < 8; what++) all[n++] = x.thing(t, what);
        all[n++] = x.seed(0);
        all[n++] = x.tear();
        return all;
    }
}
