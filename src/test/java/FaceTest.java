import java.lang.reflect.Constructor;
import java.lang.reflect.Field;
import java.lang.reflect.Method;
import java.lang.reflect.Modifier;
import java.util.Arrays;
import java.util.Set;
import java.util.TreeSet;

/** The public face is the document's, with nothing beside it that can be seen from outside. */
public final class FaceTest {
    private static final Set<String> FACE = Set.of(
        "add/2", "remove/2", "assign/2", "count/2", "reset/1", "deliver/2", "sync/2",
        "has/2", "values/1", "value/2", "total/1", "known/2");

    public static void main(String[] args) {
        Checks c = new Checks();
        Class<?> type = CausalObjects.class;
        c.holds("the class is public and final", (type.getModifiers() & (Modifier.PUBLIC | Modifier.FINAL)) == (Modifier.PUBLIC | Modifier.FINAL));
        c.holds("it has no package", type.getPackageName().isEmpty());
        c.holds("it extends Object alone", type.getSuperclass() == Object.class && type.getInterfaces().length == 0);
        c.due("nested classes", type.getDeclaredClasses().length, 0);
        methods(c, type);
        constructors(c, type);
        for (Field field : type.getDeclaredFields()) {
            c.holds(field + " is private", Modifier.isPrivate(field.getModifiers()));
        }
        c.end();
    }

    private static void methods(Checks c, Class<?> type) {
        Set<String> open = new TreeSet<>();
        Set<String> names = new TreeSet<>();
        for (Method method : type.getDeclaredMethods()) {
            if (Modifier.isPrivate(method.getModifiers())) {
                names.add(method.getName());
                continue;
            }
            c.holds(method + " is public and not static",
                Modifier.isPublic(method.getModifiers()) && !Modifier.isStatic(method.getModifiers()));
            c.holds(method + " answers an int", method.getReturnType() == int.class);
            c.holds(method + " takes ints", Arrays.stream(method.getParameterTypes()).allMatch(t -> t == int.class));
            open.add(method.getName() + "/" + method.getParameterCount());
        }
        c.holds("the methods are the document's: " + open, open.equals(FACE));
        for (String face : FACE) {
            String name = face.substring(0, face.indexOf('/'));
            c.holds("no private method is named " + name, !names.contains(name));
        }
    }

    private static void constructors(Checks c, Class<?> type) {
        Constructor<?>[] all = type.getDeclaredConstructors();
        c.due("constructors", all.length, 1);
        c.holds("it is public and takes nothing", Modifier.isPublic(all[0].getModifiers()) && all[0].getParameterCount() == 0);
    }
}
