import java.lang.reflect.Constructor;
import java.lang.reflect.Field;
import java.lang.reflect.Method;
import java.lang.reflect.Modifier;
import java.util.Arrays;
import java.util.HashSet;
import java.util.Set;
import java.util.TreeSet;

/** The public face of the document, and rules 1, 2, 5 and 10 as far as members show them. */
public final class FaceTest {
    private static final Class<?> PROGRAM = KeyedReconciler.class;

    public static void main(String[] args) throws IllegalAccessException {
        classItself();
        constants();
        constructors();
        publicMethods();
        hiddenMembers();
        fields();
        methods();
        Due.end();
    }

    private static void classItself() {
        Due.text("class", Modifier.toString(PROGRAM.getModifiers()), "public final");
        Due.text("package", PROGRAM.getPackageName(), "");
        Due.answer("nested classes", PROGRAM.getDeclaredClasses().length, 0);
        Due.answer("interfaces", PROGRAM.getInterfaces().length, 0);
    }

    private static void constants() throws IllegalAccessException {
        Set<String> found = new TreeSet<>();
        for (Field field : PROGRAM.getFields()) {
            found.add(field.toGenericString() + " = " + field.get(null));
        }
        Due.text("constants", String.join("\n", found), """
                public static final int KeyedReconciler.BAD_ARG = -1
                public static final int KeyedReconciler.FULL = -2
                public static final int KeyedReconciler.NONE = -4""");
    }

    private static void constructors() {
        Constructor<?>[] found = PROGRAM.getDeclaredConstructors();
        Due.text("constructors", Arrays.toString(found), "[public KeyedReconciler()]");
    }

    private static void publicMethods() {
        Set<String> found = new TreeSet<>();
        for (Method method : PROGRAM.getDeclaredMethods()) {
            if (Modifier.isPublic(method.getModifiers())) {
                found.add(method.toString().replace("KeyedReconciler.", ""));
            }
        }
        Due.text("public methods", String.join("\n", found), """
                public int children(int)
                public int close()
                public int digest()
                public int drafted()
                public int gone()
                public int id(int)
                public int kept()
                public int kind(int)
                public int leaf(int,int)
                public int moves()
                public int open(int,int)
                public int parent(int)
                public int place(int)
                public int put(int,int)
                public int recall()
                public int show()
                public int size()
                public int state(int)
                public void scrap()""");
    }

    private static void hiddenMembers() {
        for (Field field : PROGRAM.getDeclaredFields()) {
            isPublicOrPrivate(field.toString(), field.getModifiers());
        }
        for (Method method : PROGRAM.getDeclaredMethods()) {
            isPublicOrPrivate(method.toString(), method.getModifiers());
        }
    }

    private static void isPublicOrPrivate(String member, int modifiers) {
        boolean seen = Modifier.isPublic(modifiers) || Modifier.isPrivate(modifiers);
        Due.text(member + " is public or private", seen ? "yes" : "no", "yes");
    }

    private static void fields() {
        int ofObject = 0;
        for (Field field : PROGRAM.getDeclaredFields()) {
            Class<?> type = field.getType();
            if (Modifier.isStatic(field.getModifiers())) {
                boolean constant = Modifier.isFinal(field.getModifiers())
                        && (type == int.class || type == long.class);
                Due.text(field + " is a constant number", constant ? "yes" : "no", "yes");
            } else {
                ofObject++;
                Due.text(field + " is of an allowed type", isAllowed(type) ? "yes" : "no", "yes");
            }
        }
        Due.text("forty fields at most", ofObject <= 40 ? "yes" : "no", "yes");
    }

    private static void methods() {
        Set<String> names = new HashSet<>();
        for (Method method : PROGRAM.getDeclaredMethods()) {
            Due.text(method + " has a name of its own", names.add(method.getName()) ? "yes" : "no", "yes");
            Due.text(method + " takes seven at most", method.getParameterCount() <= 7 ? "yes" : "no", "yes");
            Due.text(method + " answers no array", method.getReturnType().isArray() ? "no" : "yes", "yes");
            for (Class<?> type : method.getParameterTypes()) {
                Due.text(method + " takes allowed types", isAllowed(type) ? "yes" : "no", "yes");
            }
        }
    }

    private static boolean isAllowed(Class<?> type) {
        Class<?> number = type.isArray() ? type.getComponentType() : type;
        return number.isPrimitive() && number != float.class && number != double.class;
    }
}
