import java.lang.reflect.Constructor;
import java.lang.reflect.Field;
import java.lang.reflect.Method;
import java.lang.reflect.Modifier;
import java.util.Arrays;
import java.util.TreeSet;

/** The public face, and those rules of LANGUAGE.md on members that can be seen from outside. */
public final class FaceTest {
    private static final String[] METHODS = {
        "int feed[long, long, long] []", "int weave[] []", "int lay[int, int] []", "int at[int, int, int] []",
        "int add[] []", "int take[int] []", "boolean link[int, int] []", "boolean unlink[int, int] []",
        "int mend[] []", "int look[int, int] [class java.util.NoSuchElementException]", "int over[int, int] []",
        "int linked[int, int] []", "int fewest[] []", "int order[int] []", "boolean sizes[int, int, int] []",
        "int count[int] []"};

    private static final Checks CHECKS = new Checks();

    public static void main(String[] args) throws ReflectiveOperationException {
        CHECKS.due("public and final", RingWeaves.class.getModifiers(), Modifier.PUBLIC | Modifier.FINAL);
        methods();
        fields();
        Constructor<?>[] constructors = RingWeaves.class.getDeclaredConstructors();
        CHECKS.due("constructors", constructors.length, 1);
        CHECKS.due("the constructor's parameters", constructors[0].getParameterCount(), 0);
        CHECKS.due("the constructor is public", Modifier.isPublic(constructors[0].getModifiers()), true);
        CHECKS.due("classes inside", RingWeaves.class.getDeclaredClasses().length <= 11, true);
        for (Class<?> inside : RingWeaves.class.getDeclaredClasses()) {
            inside(inside);
        }
        CHECKS.finish();
    }

    private static void methods() {
        TreeSet<String> want = new TreeSet<>(Arrays.asList(METHODS));
        TreeSet<String> got = new TreeSet<>();
        for (Method method : RingWeaves.class.getDeclaredMethods()) {
            if (Modifier.isPublic(method.getModifiers())) {
                got.add(method.getReturnType() + " " + method.getName() + Arrays.toString(method.getParameterTypes())
                    + " " + Arrays.toString(method.getExceptionTypes()));
            } else {
                CHECKS.due(method + " is private", Modifier.isPrivate(method.getModifiers()), true);
                noPublicName(method);
            }
        }
        CHECKS.due("the methods " + got, got.equals(want), true);
    }

    private static void fields() throws ReflectiveOperationException {
        Field none = RingWeaves.class.getField("NONE");
        CHECKS.due("NONE", none.getModifiers(), Modifier.PUBLIC | Modifier.STATIC | Modifier.FINAL);
        CHECKS.due("NONE is an int", none.getType() == int.class, true);
        for (Field field : RingWeaves.class.getDeclaredFields()) {
            boolean isPrivate = Modifier.isPrivate(field.getModifiers());
            CHECKS.due(field + " is private", isPrivate, !field.getName().equals("NONE"));
        }
        fewFields(RingWeaves.class);
    }

    private static void inside(Class<?> inside) {
        CHECKS.due(inside + " is static", Modifier.isStatic(inside.getModifiers()), true);
        CHECKS.due(inside + " is open to all", Modifier.isPublic(inside.getModifiers()), false);
        for (Method method : inside.getDeclaredMethods()) {
            noPublicName(method);
            CHECKS.due(method + " has few parameters", method.getParameterCount() <= 7, true);
        }
        fewFields(inside);
    }

    private static void fewFields(Class<?> some) {
        int fields = 0;
        for (Field field : some.getDeclaredFields()) {
            if (Modifier.isStatic(field.getModifiers())) {
                CHECKS.due(field + " is final", Modifier.isFinal(field.getModifiers()), true);
            } else {
                fields++;
            }
        }
        CHECKS.due(some + " has few fields", fields <= 20, true);
    }

    private static void noPublicName(Method method) {
        for (String known : METHODS) {
            String name = known.substring(known.indexOf(' ') + 1, known.indexOf('['));
            CHECKS.due(method + " bears a public name", method.getName().equals(name), false);
        }
    }
}
