import java.io.IOException;
import java.lang.reflect.Field;
import java.lang.reflect.Method;
import java.lang.reflect.Modifier;
import java.nio.file.Files;
import java.nio.file.Path;
import java.util.Set;
import java.util.TreeSet;
import java.util.regex.Matcher;
import java.util.regex.Pattern;

/** README.md names the whole face, and its example answers what it says; it is read from the folder that the test is started in. */
final class ReadmeTest extends Support {
    private static final String[] FACE = {
        "TearSafeCard(int limit)", "int put(int op, int b)", "int install(int applet, int method, boolean exported)",
        "int run(int applet, int method, int arg)", "int result()", "int place()", "int tear(int n)", "void reset()",
        "int length(int applet, int root)", "int element(int applet, int root, int index)", "int traits(int applet, int root)",
        "boolean same(int a, int b)", "int held()"};
    private static final String[] INSTRUCTIONS = {
        "PUSH", "LOAD", "STORE", "ADD", "SUB", "MUL", "LESS", "JUMP", "JZERO", "ROOT", "SETROOT", "NEW", "GET", "PUT", "SHARE",
        "LENGTH", "FOREIGN", "NULL", "CALL", "RETURN", "DUP", "DROP", "BEGIN", "COMMIT", "ABORT"};
    private static final Pattern EXAMPLE = Pattern.compile("```java\n(.*?)```", Pattern.DOTALL);
    private static final Pattern MAKING = Pattern.compile("TearSafeCard card = new TearSafeCard\\((\\d+)\\);");
    private static final Pattern CALL = Pattern.compile("card\\.(\\w+)\\((.*)\\); +// (-?\\w+)(?:[:, ].*)?");

    public static void main(String[] args) throws IOException, ReflectiveOperationException {
        String readme = Files.readString(Path.of("README.md"));
        for (String signature : FACE) {
            due("README.md has a row for " + signature, readme.contains("\n| `" + signature + "` | "), true);
        }
        for (Field field : TearSafeCard.class.getFields()) {
            String row = "\n| `" + field.getName() + "` " + field.getInt(null) + " | ";
            due("README.md has a row for " + field.getName(), readme.contains(row), true);
        }
        for (int op = 0; op < INSTRUCTIONS.length; op++) {
            Pattern row = Pattern.compile("^\\|([^|]*,)? " + op + " " + INSTRUCTIONS[op] + "[ ,]", Pattern.MULTILINE);
            due("README.md has a row for " + INSTRUCTIONS[op], row.matcher(readme).find(), true);
        }
        due("README.md says how to run the tests", readme.contains("\n    .ci/run\n"), true);
        testsAreNamed(readme);
        Matcher example = EXAMPLE.matcher(readme);
        due("README.md has an example", example.find(), true);
        example(example.group(1));
        end();
    }

    private static void testsAreNamed(String readme) throws IOException {
        try (var files = Files.list(Path.of("src", "test", "java"))) {
            for (Path file : files.toList()) {
                String name = file.getFileName().toString().replace(".java", "");
                if (name.endsWith("Test")) {
                    due("README.md has a row for " + name, readme.contains("\n| " + name + " | "), true);
                }
            }
        }
    }

    private static void example(String lines) throws ReflectiveOperationException {
        TearSafeCard card = null;
        Set<String> called = new TreeSet<>();
        for (String line : lines.split("\n")) {
            Matcher making = MAKING.matcher(line);
            Matcher call = CALL.matcher(line);
            if (making.matches()) {
                card = new TearSafeCard(Integer.parseInt(making.group(1)));
            } else if (call.matches()) {
                called.add(call.group(1));
                called(card, line, call);
            } else {
                due("a line of the example is empty or a call: " + line, line.isEmpty(), true);
            }
        }
        due("calls of the example " + called, called.size(), FACE.length - 1);
    }

    private static void called(TearSafeCard card, String line, Matcher call) throws ReflectiveOperationException {
        Method method = methodOf(call.group(1));
        String[] words = call.group(2).isEmpty() ? new String[0] : call.group(2).split(", ");
        Object[] arguments = new Object[words.length];
        for (int at = 0; at < words.length; at++) {
            arguments[at] = valueOf(words[at]);
        }
        Object got = method.invoke(card, arguments);
        if (method.getReturnType() != void.class) {
            due(line + " - answers " + got, got.equals(valueOf(call.group(3))), true);
        }
    }

    private static Method methodOf(String name) throws NoSuchMethodException {
        for (Method method : TearSafeCard.class.getDeclaredMethods()) {
            if (Modifier.isPublic(method.getModifiers()) && method.getName().equals(name)) {
                return method;
            }
        }
        throw new NoSuchMethodException(name);
    }

    /** A number, a boolean, or the name of a constant. */
    private static Object valueOf(String word) throws ReflectiveOperationException {
        if (word.equals("true") || word.equals("false")) {
            return word.equals("true");
        }
        if (word.matches("-?\\d+")) {
            return Integer.parseInt(word);
        }
        return TearSafeCard.class.getField(word).getInt(null);
    }
}
