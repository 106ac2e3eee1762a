import java.lang.reflect.Array;
import java.lang.reflect.Field;
import java.lang.reflect.Modifier;
import java.util.Collections;
import java.util.IdentityHashMap;
import java.util.Set;

/** What an object holds: all of it is made by the constructor, and it is far less than a run has room for. */
public final class RoomTest {
    private static final int MOST_OBJECTS = 60, MOST_ELEMENTS = 3500;

    private final Set<Object> found = Collections.newSetFromMap(new IdentityHashMap<>());
    private int elements;

    public static void main(String[] args) throws IllegalAccessException {
        Due due = new Due("RoomTest");
        DotObjects x = new DotObjects();
        RoomTest first = room(x);
        due.isTrue("objects and arrays: " + first.found.size(), first.found.size() <= MOST_OBJECTS);
        due.isTrue("fields and elements: " + first.elements, first.elements <= MOST_ELEMENTS);
        useAll(x);
        RoomTest then = room(x);
        due.is("objects and arrays behind many calls", then.found.size(), first.found.size());
        due.isTrue("and they are the same", then.found.containsAll(first.found));
        due.is("fields and elements behind many calls", then.elements, first.elements);
        due.close();
    }

    private static RoomTest room(Object x) throws IllegalAccessException {
        RoomTest room = new RoomTest();
        room.count(x);
        return room;
    }

    private void count(Object x) throws IllegalAccessException {
        if (x == null || !found.add(x)) return;
        if (x.getClass().isArray()) {
            elements += Array.getLength(x);
            if (x instanceof Object[] row) for (Object part : row) count(part);
            return;
        }
        for (Field field : x.getClass().getDeclaredFields()) {
            if (Modifier.isStatic(field.getModifiers())) continue;
            elements++;
            field.setAccessible(true);
            if (!field.getType().isPrimitive()) count(field.get(x));
        }
    }

    /** Each call, as full as it can be. */
    private static void useAll(DotObjects x) {
        x.seed(3);
        x.drift(12);
        for (int k = 0; k < 20; k++) {
            x.row(k % 4, k % 8, 255 - k);
            x.write(k, k, 1);
            x.move(k % 12, k, k % 8);
            x.turn(k % 12, k % 4, k / 5);
            x.speed(k % 12, k % 8, -k % 8);
            x.limit(k % 8 + 1);
            x.rule(k % 4);
            x.frame(k + 1);
            for (int what = 0; what < 12; what++) x.told(what);
        }
        for (int what = 0; what < 14; what++) x.thing(11, what);
        x.undo(5);
        x.keep(0);
        x.keep(1);
        x.take(0);
        x.put(0, 0, 0, 0, 0, 1);
        x.goBack(0);
        x.leftOut(11, 40);
        x.worst(40);
        x.dot(23, 31, 2);
        x.line(23, 3);
        x.drawn(23, 1);
        x.pictureRow(3, 7);
        x.tear();
    }
}
