import java.util.Random;

/** Long runs of calls, by fixed seeds, whose answers must be those of the Model. */
public final class RandomRunsTest {
    private static final int RUNS = 240;
    private static final int CALLS = 512;

    private final Due due;
    private final Random random;
    /** Of a hundred arguments, so many are taken from outside their bounds or from their edges. */
    private final int odd;
    private final DotObjects x = new DotObjects();
    private final Model m = new Model();

    private RandomRunsTest(Due due, long seed) {
        this.due = due;
        this.random = new Random(seed);
        this.odd = seed % 3 == 0 ? 10 : 3;
    }

    public static void main(String[] args) {
        Due due = new Due("RandomRunsTest");
        for (int run = 0; run < RUNS && due.wrong() < 20; run++) {
            RandomRunsTest test = new RandomRunsTest(due, run);
            for (int call = 0; call < CALLS; call++) test.step(run);
        }
        due.close();
    }

    private int pick(int least, int most) {
        if (random.nextInt(100) >= odd) return least + random.nextInt(most - least + 1);
        int[] edges = {least - 1, most + 1, least, most, Integer.MIN_VALUE, Integer.MAX_VALUE, -1, 0, 1000};
        return edges[random.nextInt(edges.length)];
    }

    private int pickThing() {
        return pick(0, Math.max(0, m.now.things.size() - 1));
    }

    private void is(int run, String name, long got, long want, int... arguments) {
        due.is("run " + run + " " + name + java.util.Arrays.toString(arguments), got, want);
    }

    private void step(int run) {
        int kind = random.nextInt(100);
        if (kind < 45) ask(run);
        else if (kind < 85) change(run);
        else other(run);
    }

    private void ask(int run) {
        int a, b, c;
        switch (random.nextInt(8)) {
            case 0: a = pick(0, 11); is(run, "told", x.told(a), m.told(a), a); break;
            case 1: case 2:
                a = pickThing(); b = pick(0, 13); is(run, "thing", x.thing(a, b), m.thing(a, b), a, b); break;
            case 3:
                a = pick(0, 23); b = pick(0, 31); c = pick(0, 2);
                is(run, "dot", x.dot(a, b, c), m.dot(a, b, c), a, b, c); break;
            case 4: a = pick(0, 23); b = pick(0, 3); is(run, "line", x.line(a, b), m.line(a, b), a, b); break;
            case 5: a = pick(0, 23); b = pick(0, 1); is(run, "drawn", x.drawn(a, b), m.drawn(a, b), a, b); break;
            case 6: a = pick(0, 3); b = pick(0, 7); is(run, "pictureRow", x.pictureRow(a, b), m.pictureRow(a, b), a, b); break;
            default:
                if (random.nextInt(3) == 0) { a = pick(1, 40); is(run, "worst", x.worst(a), m.worst(a), a); }
                else { a = pickThing(); b = pick(1, 40); is(run, "leftOut", x.leftOut(a, b), m.leftOut(a, b), a, b); }
        }
    }

    private void change(int run) {
        int a, b, c;
        switch (random.nextInt(12)) {
            case 0: case 1:
                a = pick(0, 3); b = pick(0, 7); c = pick(0, 255); is(run, "row", x.row(a, b, c), m.row(a, b, c), a, b, c); break;
            case 2: case 3: case 4: doPut(run); break;
            case 5: case 6:
                a = pickThing(); b = pick(-8, 31); c = pick(-8, 23);
                is(run, "move", x.move(a, b, c), m.move(a, b, c), a, b, c); break;
            case 7: a = pickThing(); b = pick(0, 3); c = pick(0, 3); is(run, "turn", x.turn(a, b, c), m.turn(a, b, c), a, b, c); break;
            case 8: a = pickThing(); b = pick(-8, 8); c = pick(-8, 8); is(run, "speed", x.speed(a, b, c), m.speed(a, b, c), a, b, c); break;
            case 9: a = pick(1, 8); is(run, "limit", x.limit(a), m.limit(a), a); break;
            case 10: a = pick(0, 3); is(run, "rule", x.rule(a), m.rule(a), a); break;
            default: a = pick(1, 40); is(run, "frame", x.frame(a), m.frame(a), a);
        }
    }

    private void doPut(int run) {
        // Crowded on a few lines, so that the limit tells.
        int px = pick(-8, 31), py = random.nextBoolean() ? pick(4, 9) : pick(-8, 23);
        int p = pick(0, 3), turn = pick(0, 3), level = pick(0, 3), colour = pick(1, 7);
        is(run, "put", x.put(px, py, p, turn, level, colour), m.put(px, py, p, turn, level, colour), px, py, p, turn, level, colour);
    }

    private void other(int run) {
        int a, b, c;
        switch (random.nextInt(10)) {
            case 0: a = pickThing(); is(run, "take", x.take(a), m.take(a), a); break;
            case 1: a = pick(1, 12); is(run, "drift", x.drift(a), m.drift(a), a); break;
            case 2: case 3: a = random.nextInt(3) == 0 ? pick(1, 20) : pick(1, 4); is(run, "undo", x.undo(a), m.undo(a), a); break;
            case 4: case 5: case 6:
                a = pick(0, 23); b = pick(0, 31); c = random.nextBoolean() ? Math.max(0, m.dot(a, b, 0)) : pick(0, 7);
                is(run, "write", x.write(a, b, c), m.write(a, b, c), a, b, c); break;
            case 7:
                if (random.nextInt(6) == 0) is(run, "tear", x.tear(), m.tear());
                else { a = random.nextBoolean() ? pick(0, Integer.MAX_VALUE - 1) : random.nextInt(); is(run, "seed", x.seed(a), m.seed(a), a); }
                break;
            case 8: if (random.nextInt(2) == 0) { a = pick(0, 1); is(run, "keep", x.keep(a), m.keep(a), a); } break;
            default: if (random.nextInt(2) == 0) { a = pick(0, 1); is(run, "goBack", x.goBack(a), m.goBack(a), a); }
        }
    }
}
