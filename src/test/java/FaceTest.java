import java.lang.reflect.Constructor;
import java.lang.reflect.Field;
import java.lang.reflect.Method;
import java.lang.reflect.Modifier;
import java.util.Arrays;
import java.util.Set;
import java.util.TreeSet;

/** The document's public face: it is there whole, and there is nothing beside it. */
final class FaceTest extends Support {
    private static final String[] METHODS = {
        "int put(int, int)", "int install(int, int, boolean)", "int run(int, int, int)", "int result()", "int place()",
        "int tear(int)", "void reset()", "int length(int, int)", "int element(int, int, int)", "int traits(int, int)",
        "boolean same(int, int)", "int held()"};
    private static final String[] CONSTANTS = {
        "RETURNED 0", "STEPS 1", "NULL 2", "WALL 3", "BOUNDS 4", "ABSENT 5", "DEPTH 6", "MEMORY 7", "NESTING 8", "TORN 9",
        "BAD 10", "REFUSED -1"};

    public static void main(String[] args) throws IllegalAccessException {
        due("public and final", TearSafeCard.class.getModifiers(), Modifier.PUBLIC | Modifier.FINAL);
        dueAll("methods", methods(), METHODS);
        dueAll("constants", constants(), CONSTANTS);
        Constructor<?>[] constructors = TearSafeCard.class.getDeclaredConstructors();
        due("constructors", constructors.length, 1);
        due("the constructor", constructors[0].toString().equals("public TearSafeCard(int)"), true);
        end();
    }

    private static void dueAll(String what, Set<String> got, String[] want) {
        Set<String> wanted = new TreeSet<>(Arrays.asList(want));
        due(what + " " + got, got.equals(wanted), true);
    }

    private static Set<String> methods() {
        Set<String> found = new TreeSet<>();
        for (Method method : TearSafeCard.class.getDeclaredMethods()) {
            if (!Modifier.isPrivate(method.getModifiers())) {
                String parameters = Arrays.toString(method.getParameterTypes()).replace('[', '(').replace(']', ')');
                found.add(method.getReturnType() + " " + method.getName() + parameters);
                due(method.getName() + " is public alone", method.getModifiers(), Modifier.PUBLIC);
            }
        }
        return found;
    }

    private static Set<String> constants() throws IllegalAccessException {
        Set<String> found = new TreeSet<>();
        for (Field field : TearSafeCard.class.getDeclaredFields()) {
            if (!Modifier.isPrivate(field.getModifiers())) {
                found.add(field.getName() + " " + field.getInt(null));
                int want = Modifier.PUBLIC | Modifier.STATIC | Modifier.FINAL;
                due(field.getName() + " is a public constant", field.getModifiers(), want);
            }
        }
        return found;
    }
}
