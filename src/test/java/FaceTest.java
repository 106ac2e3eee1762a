import java.lang.reflect.Constructor;
import java.lang.reflect.Field;
import java.lang.reflect.Method;
import java.lang.reflect.Modifier;
import java.util.Set;
import java.util.TreeSet;

/** The public face is the document's, and nothing else of the class can be reached from outside. */
public final class FaceTest {
    private static final String[] METHODS = {
        "int told(int)", "int thing(int,int)", "int dot(int,int,int)", "long line(int,int)", "int drawn(int,int)",
        "int pictureRow(int,int)", "int row(int,int,int)", "int put(int,int,int,int,int,int)", "int move(int,int,int)",
        "int turn(int,int,int)", "int speed(int,int,int)", "int take(int)", "int limit(int)", "int rule(int)",
        "int frame(int)", "int drift(int)", "int undo(int)", "int leftOut(int,int)", "int worst(int)",
        "int write(int,int,int)", "int tear()", "int seed(int)", "int keep(int)", "int goBack(int)"
    };

    public static void main(String[] args) {
        Due due = new Due("FaceTest");
        due.isTrue("the class is public and final", DotObjects.class.getModifiers() == (Modifier.PUBLIC | Modifier.FINAL));
        due.isTrue("the methods are the document's: " + methods(), methods().equals(new TreeSet<>(Set.of(METHODS))));
        due.isTrue("the constants are the document's: " + constants(),
            constants().equals(new TreeSet<>(Set.of("NONE", "UNKNOWN", "OUTSIDE", "NOT", "FULL"))));
        Constructor<?>[] constructors = DotObjects.class.getDeclaredConstructors();
        due.is("constructors", constructors.length, 1);
        due.isTrue("the constructor is public", Modifier.isPublic(constructors[0].getModifiers()));
        due.is("its parameters", constructors[0].getParameterCount(), 0);
        due.is("NONE", DotObjects.NONE, -1);
        due.is("UNKNOWN", DotObjects.UNKNOWN, -1000000001);
        due.is("OUTSIDE", DotObjects.OUTSIDE, -1000000002);
        due.is("NOT", DotObjects.NOT, -1000000003);
        due.is("FULL", DotObjects.FULL, -1000000004);
        checkInside(due);
        due.close();
    }

    private static Set<String> methods() {
        Set<String> found = new TreeSet<>();
        for (Method m : DotObjects.class.getDeclaredMethods()) {
            if (Modifier.isPrivate(m.getModifiers())) continue;
            String types = "";
            for (Class<?> type : m.getParameterTypes()) types += (types.isEmpty() ? "" : ",") + type.getName();
            found.add((Modifier.isPublic(m.getModifiers()) ? "" : "hidden ") + m.getReturnType().getName() + " " + m.getName() + "(" + types + ")");
        }
        return found;
    }

    private static Set<String> constants() {
        Set<String> found = new TreeSet<>();
        int constant = Modifier.PUBLIC | Modifier.STATIC | Modifier.FINAL;
        for (Field f : DotObjects.class.getDeclaredFields()) {
            if (Modifier.isPrivate(f.getModifiers())) continue;
            found.add((f.getModifiers() == constant && f.getType() == int.class ? "" : "other ") + f.getName());
        }
        return found;
    }

    private static void checkInside(Due due) {
        Set<String> publicNames = new TreeSet<>();
        for (Method m : DotObjects.class.getMethods()) if (m.getDeclaringClass() == DotObjects.class) publicNames.add(m.getName());
        Class<?>[] inside = DotObjects.class.getDeclaredClasses();
        due.isTrue("at most twelve classes", inside.length + 1 <= 12);
        for (Class<?> c : inside) {
            due.isTrue(c.getName() + " is static and not public",
                Modifier.isStatic(c.getModifiers()) && !Modifier.isPublic(c.getModifiers()) && !Modifier.isProtected(c.getModifiers()));
            for (Method m : c.getDeclaredMethods()) due.isTrue(m + " bears a name of its own", !publicNames.contains(m.getName()));
        }
        for (Method m : DotObjects.class.getDeclaredMethods()) {
            due.isTrue(m + " bears a name of its own", Modifier.isPublic(m.getModifiers()) || !publicNames.contains(m.getName()));
        }
    }
}
