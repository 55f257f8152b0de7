import java.lang.reflect.Constructor;
import java.lang.reflect.Field;
import java.lang.reflect.Method;
import java.lang.reflect.Modifier;
import java.util.Arrays;
import java.util.TreeSet;

/** The public face, and rule 1 of LANGUAGE.md: all of the document's members and no other. */
final class FaceTest {
    private static final Checks CHECKS = new Checks("FaceTest");
    private static final String[] METHODS = {"feed/5", "end/1", "read/0", "fault/1", "clear/0", "clause/2",
        "refutation/0", "eliminate/1", "label/2", "variables/2", "interpolate/2", "value/1", "partial/2", "told/1",
        "graph/2", "follows/3", "gap/3", "count/1"};

    public static void main(String[] args) throws ReflectiveOperationException {
        Class<?> face = CraigBench.class;
        CHECKS.holds("public final", Modifier.isPublic(face.getModifiers()) && Modifier.isFinal(face.getModifiers()));
        constants(face);
        constructors(face);
        methods(face);
        nested(face);
        CHECKS.finish();
    }

    private static void constants(Class<?> face) throws ReflectiveOperationException {
        TreeSet<String> seen = new TreeSet<>();
        for (Field field : face.getDeclaredFields()) {
            if (!Modifier.isPrivate(field.getModifiers())) {
                seen.add(field.getName());
                CHECKS.holds(field.getName() + " is a public constant of int", field.getType() == int.class
                    && field.getModifiers() == (Modifier.PUBLIC | Modifier.STATIC | Modifier.FINAL));
            }
        }
        CHECKS.holds("constants are " + seen, seen.equals(new TreeSet<>(Arrays.asList("NONE", "RANGE", "FULL"))));
        CHECKS.due("NONE", face.getField("NONE").getInt(null), -1);
        CHECKS.due("RANGE", face.getField("RANGE").getInt(null), -2);
        CHECKS.due("FULL", face.getField("FULL").getInt(null), -3);
    }

    private static void constructors(Class<?> face) {
        Constructor<?>[] all = face.getDeclaredConstructors();
        CHECKS.due("constructors", all.length, 1);
        CHECKS.due("its parameters", all[0].getParameterCount(), 0);
        CHECKS.holds("it is public", Modifier.isPublic(all[0].getModifiers()));
    }

    private static void methods(Class<?> face) {
        TreeSet<String> seen = new TreeSet<>();
        TreeSet<String> hidden = new TreeSet<>();
        for (Method method : face.getDeclaredMethods()) {
            if (Modifier.isPrivate(method.getModifiers())) {
                hidden.add(method.getName());
                continue;
            }
            seen.add(method.getName() + "/" + method.getParameterCount());
            CHECKS.holds(method + " is public, of ints", method.getModifiers() == Modifier.PUBLIC
                && method.getReturnType() == int.class
                && Arrays.stream(method.getParameterTypes()).allMatch(type -> type == int.class));
        }
        CHECKS.holds("methods are " + seen, seen.equals(new TreeSet<>(Arrays.asList(METHODS))));
        for (String method : METHODS) {
            CHECKS.holds("no private " + method, !hidden.contains(method.substring(0, method.indexOf('/'))));
        }
    }

    private static void nested(Class<?> face) {
        for (Class<?> inside : face.getDeclaredClasses()) {
            CHECKS.holds(inside + " is static and not public", Modifier.isStatic(inside.getModifiers())
                && !Modifier.isPublic(inside.getModifiers()) && !Modifier.isProtected(inside.getModifiers()));
            for (Method method : inside.getDeclaredMethods()) {
                CHECKS.holds(method + " bears no public name", Arrays.stream(METHODS)
                    .noneMatch(name -> name.startsWith(method.getName() + "/")));
            }
        }
    }
}
