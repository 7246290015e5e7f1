import java.lang.reflect.Constructor;
import java.lang.reflect.Field;
import java.lang.reflect.Method;
import java.lang.reflect.Modifier;
import java.util.Arrays;
import java.util.Set;
import java.util.TreeSet;
import java.util.stream.Collectors;

/** The public face of the document, and the rules of LANGUAGE.md about it. */
public final class FaceTest {
    private static final String STATE = " throws IllegalStateException";
    private static final String INDEX = ",IndexOutOfBoundsException";
    private static final String ARGUMENT = ",IllegalArgumentException";
    private static final String UNSUPPORTED = ",UnsupportedOperationException";

    private static final String[] METHODS = {
        "int list()" + STATE,
        "int leaf(int,int,int,int,int)" + STATE + INDEX + ARGUMENT,
        "void standard(int,int,int)" + STATE + INDEX + ARGUMENT,
        "int rule(int,int,int,int,boolean)" + STATE + INDEX,
        "boolean ready()" + STATE,
        "int begin(int)" + STATE + INDEX,
        "boolean entry(int,int,int,boolean)" + STATE + INDEX + ARGUMENT + UNSUPPORTED,
        "void set(int,int,int,int,int)" + STATE + INDEX + ARGUMENT,
        "boolean unset(int,int,int,int)" + STATE + INDEX,
        "int get(int,int,int,int)" + STATE + INDEX + UNSUPPORTED,
        "boolean lock(int,boolean)" + STATE + INDEX,
        "int commit(int,int)" + STATE + INDEX + ARGUMENT,
        "boolean confirm()" + STATE,
        "boolean tick()" + STATE,
        "int rollback(int,int)" + STATE + INDEX + ARGUMENT,
        "int diff(int,int,int)" + STATE + INDEX,
        "int save()" + STATE,
        "boolean cut(int) throws IllegalArgumentException",
        "boolean reboot()",
        "int figure(int)",
    };

    public static void main(String[] args) throws IllegalAccessException {
        constants();
        methods();
        constructor();
        nestedClasses();
        Expect.end();
    }

    private static void constants() throws IllegalAccessException {
        Expect.about("constants");
        Expect.same("DONE", SettingsDesk.DONE, 0);
        Expect.same("CLASH", SettingsDesk.CLASH, 1);
        Expect.same("INVALID", SettingsDesk.INVALID, 2);
        Expect.same("LOCKED", SettingsDesk.LOCKED, 3);
        Expect.same("NONE", SettingsDesk.NONE, -1);
        Set<String> names = new TreeSet<>();
        for (Field field : SettingsDesk.class.getDeclaredFields()) {
            int modifiers = field.getModifiers();
            if (Modifier.isStatic(modifiers)) {
                Expect.yes(field.getName() + " is final", Modifier.isFinal(modifiers));
            }
            if (!Modifier.isPrivate(modifiers)) {
                names.add(Modifier.toString(modifiers) + " " + field.getName());
            }
        }
        Expect.yes("the visible fields " + names, names.equals(Set.of(
                "public static final DONE", "public static final CLASH",
                "public static final INVALID", "public static final LOCKED",
                "public static final NONE")));
    }

    private static void methods() {
        Expect.about("methods");
        Set<String> due = new TreeSet<>(Arrays.asList(METHODS));
        Set<String> got = new TreeSet<>();
        Set<String> names = new TreeSet<>();
        for (Method method : SettingsDesk.class.getDeclaredMethods()) {
            if (Modifier.isPublic(method.getModifiers())) {
                got.add(written(method));
                names.add(method.getName());
            }
        }
        Expect.yes("the public methods " + got, got.equals(due));
        for (Method method : SettingsDesk.class.getDeclaredMethods()) {
            if (!Modifier.isPublic(method.getModifiers())) {
                Expect.yes(method.getName() + " is private",
                        Modifier.isPrivate(method.getModifiers()));
                Expect.no(method.getName() + " bears a public name",
                        names.contains(method.getName()));
            }
        }
    }

    private static String written(Method method) {
        String parameters = Arrays.stream(method.getParameterTypes())
                .map(Class::getSimpleName).collect(Collectors.joining(","));
        String thrown = Arrays.stream(method.getExceptionTypes())
                .map(Class::getSimpleName).collect(Collectors.joining(","));
        return method.getReturnType().getSimpleName() + " " + method.getName()
                + "(" + parameters + ")" + (thrown.isEmpty() ? "" : " throws " + thrown);
    }

    private static void constructor() {
        Expect.about("constructor");
        Constructor<?>[] constructors = SettingsDesk.class.getDeclaredConstructors();
        Expect.same("constructors", constructors.length, 1);
        Expect.yes("public", Modifier.isPublic(constructors[0].getModifiers()));
        Expect.same("parameters", constructors[0].getParameterCount(), 0);
        Expect.yes("public final class", Modifier.isPublic(SettingsDesk.class.getModifiers())
                && Modifier.isFinal(SettingsDesk.class.getModifiers()));
    }

    private static void nestedClasses() {
        Expect.about("nested classes");
        Class<?>[] nested = SettingsDesk.class.getDeclaredClasses();
        Expect.yes("at most some twelve", nested.length + 1 <= 12);
        for (Class<?> each : nested) {
            int modifiers = each.getModifiers();
            Expect.no(each.getName() + " is visible",
                    Modifier.isPublic(modifiers) || Modifier.isProtected(modifiers));
            Expect.yes(each.getName() + " is static", Modifier.isStatic(modifiers));
            for (Method method : each.getDeclaredMethods()) {
                Expect.yes(method + " has at most seven parameters",
                        method.getParameterCount() <= 7);
            }
        }
    }
}
