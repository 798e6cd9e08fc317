import java.lang.reflect.Constructor;
import java.lang.reflect.Field;
import java.lang.reflect.Method;
import java.lang.reflect.Modifier;
import java.util.Arrays;
import java.util.TreeSet;
import java.util.stream.Collectors;

/** The public face: every constant, constructor and method of the document, and no other member that can be seen. */
public final class FaceTest {
    private static final Checks CHECKS = new Checks("FaceTest");
    private static final String[] METHODS = {
        "int feed(int, int, int, int, int)", "int tell(int)", "int fault(int)", "int set(int, int)",
        "int weight(int, int)", "int cut(int)", "int skip(int)", "int dot(int, int, int)", "int take()", "int undo()",
        "int shade(int, int, boolean) throws NoSuchElementException", "int level(int, int, int)",
        "int frame(int, int)", "int apart(int, int, boolean)", "int scene(int)", "int rank(int, int)",
        "int inverse(int, int)", "int flicker(boolean)", "int steady(int)", "int bestRadius()", "int leastStep(int)",
        "int flash(int, int)", "int period()", "int rounds(int)", "int settles()", "int key(int)",
        "int parted(int, int)", "int shift(int, int)", "int alike(int)", "int nearest(int)", "int kinds(boolean)",
        "int fitted(int, int, int)", "int lost(int)", "int setting(int)", "int count(int)"};

    private FaceTest() {
    }

    public static void main(String[] args) {
        theClass();
        constants();
        constructors();
        methods();
        classesInside();
        CHECKS.end();
    }

    private static void same(String what, Object got, Object want) {
        CHECKS.due(what, 0, 0);
        if (!got.equals(want)) {
            CHECKS.complain(what + ": " + got + ", due is " + want);
        }
    }

    private static String names(Class<?>[] classes) {
        return Arrays.stream(classes).map(Class::getSimpleName).collect(Collectors.joining(", "));
    }

    private static void theClass() {
        Class<?> desk = FlickerDesk.class;
        same("the class", Modifier.toString(desk.getModifiers()), "public final");
        same("its package", desk.getPackageName(), "");
        same("what it extends", desk.getSuperclass(), Object.class);
        same("what it implements", desk.getInterfaces().length, 0);
    }

    private static void constants() {
        TreeSet<String> seen = new TreeSet<>();
        for (Field field : FlickerDesk.class.getDeclaredFields()) {
            if (!Modifier.isPrivate(field.getModifiers())) {
                seen.add(Modifier.toString(field.getModifiers()) + " " + field.getType() + " " + field.getName());
            }
        }
        same("constants", seen.toString(), "[public static final int NONE]");
        CHECKS.due("NONE", FlickerDesk.NONE, -1);
    }

    private static void constructors() {
        Constructor<?>[] all = FlickerDesk.class.getDeclaredConstructors();
        CHECKS.due("how many constructors", all.length, 1);
        for (Constructor<?> one : all) {
            same("the constructor", Modifier.toString(one.getModifiers()) + " (" + names(one.getParameterTypes())
                    + ")" + names(one.getExceptionTypes()), "public ()");
        }
    }

    private static void methods() {
        TreeSet<String> seen = new TreeSet<>();
        TreeSet<String> hidden = new TreeSet<>();
        TreeSet<String> names = new TreeSet<>();
        for (Method method : FlickerDesk.class.getDeclaredMethods()) {
            if (Modifier.isPrivate(method.getModifiers())) {
                hidden.add(method.getName());
                continue;
            }
            names.add(method.getName());
            same(method.getName(), Modifier.toString(method.getModifiers()), "public");
            String thrown = names(method.getExceptionTypes());
            seen.add(method.getReturnType().getSimpleName() + " " + method.getName() + "("
                    + names(method.getParameterTypes()) + ")" + (thrown.isEmpty() ? "" : " throws " + thrown));
        }
        same("methods", seen, new TreeSet<>(Arrays.asList(METHODS)));
        hidden.retainAll(names);
        same("private methods that bear a public one's name", hidden.toString(), "[]");
    }

    private static void classesInside() {
        for (Class<?> inside : FlickerDesk.class.getDeclaredClasses()) {
            int modifiers = inside.getModifiers();
            same(inside.getName() + " can be seen", Modifier.isPublic(modifiers) || Modifier.isProtected(modifiers),
                    false);
            same(inside.getName() + " is static", Modifier.isStatic(modifiers), true);
        }
    }
}
