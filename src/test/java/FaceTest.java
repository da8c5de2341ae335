import java.lang.reflect.Constructor;
import java.lang.reflect.Field;
import java.lang.reflect.Method;
import java.lang.reflect.Modifier;
import java.util.Arrays;
import java.util.Set;
import java.util.TreeSet;

/** The public face of the document, and the rules of LANGUAGE.md on members. */
public final class FaceTest {
    private static final Set<String> METHODS = Set.of(
            "int row(int,int,int,int)", "int drop(int,int)", "int value(int,int,int)", "int from(int,boolean)",
            "int feed(int,int)", "int erase(int)", "int summary(int,int)", "int distinct(boolean)", "void clear()",
            "int state(int)", "int run()", "int size()", "int answer(int,int)", "int digest()");
    private static final Set<String> CONSTANTS = Set.of("NULL = 1000", "BAD = -2000", "FULL = -2001", "NONE = -2002");

    private static int wrong;

    public static void main(String[] args) throws Exception {
        fields();
        methods();
        constructors();
        same("modifiers", Modifier.toString(NullQueries.class.getModifiers()), "public final");
        same("nested classes", NullQueries.class.getDeclaredClasses().length, 0);
        System.out.println(wrong == 0 ? "the face is as due" : wrong + " things are not as due");
        if (wrong != 0) {
            System.exit(1);
        }
    }

    private static void same(String what, Object got, Object want) {
        if (!got.equals(want)) {
            wrong++;
            System.out.println(what + ": " + got + ", due is " + want);
        }
    }

    private static void fields() throws IllegalAccessException {
        Set<String> constants = new TreeSet<>();
        int own = 0;
        for (Field field : NullQueries.class.getDeclaredFields()) {
            int modifiers = field.getModifiers();
            boolean fixed = Modifier.isStatic(modifiers) && Modifier.isFinal(modifiers);
            if (Modifier.isPublic(modifiers)) {
                same("public field " + field, fixed && field.getType() == int.class, true);
                constants.add(field.getName() + " = " + field.getInt(new NullQueries()));
            } else {
                same("private field " + field, Modifier.isPrivate(modifiers), true);
            }
            if (Modifier.isStatic(modifiers)) {
                same("static field " + field, fixed && (field.getType() == int.class || field.getType() == long.class), true);
            } else {
                own++;
            }
        }
        same("constants", constants, new TreeSet<>(CONSTANTS));
        same("at most forty fields", own <= 40, true);
    }

    private static void methods() {
        Set<String> shown = new TreeSet<>();
        Set<String> names = new TreeSet<>();
        for (Method method : NullQueries.class.getDeclaredMethods()) {
            if (Modifier.isPublic(method.getModifiers())) {
                String types = String.join(",", Arrays.stream(method.getParameterTypes()).map(Class::getName).toList());
                shown.add(method.getReturnType().getName() + " " + method.getName() + "(" + types + ")");
                same("static " + method, Modifier.isStatic(method.getModifiers()), false);
            } else {
                same("private " + method, Modifier.isPrivate(method.getModifiers()), true);
            }
            same("name of its own: " + method, names.add(method.getName()), true);
            same("at most seven parameters: " + method, method.getParameterCount() <= 7, true);
        }
        same("methods", shown, new TreeSet<>(METHODS));
    }

    private static void constructors() {
        Constructor<?>[] all = NullQueries.class.getDeclaredConstructors();
        same("constructors", all.length, 1);
        same("constructor", all[0].toString(), "public NullQueries()");
    }
}
