import java.io.IOException;
import java.lang.reflect.InvocationTargetException;
import java.lang.reflect.Method;
import java.lang.reflect.Modifier;
import java.nio.file.DirectoryStream;
import java.nio.file.Files;
import java.nio.file.Path;
import java.util.regex.Matcher;
import java.util.regex.Pattern;

/** What README.md says of the class: its example is run, and no call and no test is left out. */
public final class ReadmeTest {
    private static final Pattern CALL = Pattern.compile("x\\.(\\w+)\\((.*)\\); +// (-?\\d+|true|false)(:.*)?");
    private static final String NAMED = "ShiftSignatures.";
    private static final Due due = new Due();

    public static void main(String[] args) throws IOException, ReflectiveOperationException {
        String text = Files.readString(Path.of("README.md"));
        exampleAnswersAsItSays(text);
        allCallsAreNamed(text);
        allTestsAreNamed(text);
        due.end();
    }

    private static void exampleAnswersAsItSays(String text) throws ReflectiveOperationException {
        due.sentence("README: The answer stands behind each call");
        ShiftSignatures x = new ShiftSignatures();
        int calls = 0;
        for (String line : text.split("\n")) {
            if (line.startsWith("x.")) {
                Matcher call = CALL.matcher(line);
                due.answer("a call and its answer: " + line, call.matches(), true);
                if (call.matches()) {
                    due.same(line, answerOf(x, call.group(1), call.group(2)), call.group(3));
                    calls++;
                }
            }
        }
        due.answer("there is an example", calls > 0, true);
    }

    private static String answerOf(ShiftSignatures x, String name, String listed) throws ReflectiveOperationException {
        Method method = methodOf(name);
        if (method == null) {
            return "no call of the class";
        }
        Class<?>[] types = method.getParameterTypes();
        Object[] given = new Object[types.length];
        for (int k = 0; k < given.length; k++) {
            long value = valueOf(listed.split(", ")[k]);
            given[k] = types[k] == int.class ? (Object) (int) value : (Object) value;
        }
        try {
            return method.invoke(x, given).toString();
        } catch (InvocationTargetException thrown) {
            return thrown.getCause().toString();
        }
    }

    private static Method methodOf(String name) {
        for (Method method : ShiftSignatures.class.getDeclaredMethods()) {
            if (method.getName().equals(name)) {
                return method;
            }
        }
        return null;
    }

    private static long valueOf(String word) throws ReflectiveOperationException {
        if (word.startsWith(NAMED)) {
            return ShiftSignatures.class.getField(word.substring(NAMED.length())).getInt(null);
        }
        return Long.parseLong(word);
    }

    private static void allCallsAreNamed(String text) {
        due.sentence("README: How to use it");
        for (Method method : ShiftSignatures.class.getDeclaredMethods()) {
            if (Modifier.isPublic(method.getModifiers())) {
                String name = method.getName();
                due.answer("the table has " + name, text.contains("\n| `" + name + "("), true);
                due.answer("the example has " + name, text.contains("\nx." + name + "("), true);
            }
        }
    }

    private static void allTestsAreNamed(String text) throws IOException {
        due.sentence("README: How to run the tests");
        due.answer("the script is named", text.contains("\n.ci/run\n"), true);
        try (DirectoryStream<Path> tests = Files.newDirectoryStream(Path.of("src/test/java"), "*Test.java")) {
            for (Path test : tests) {
                String name = test.getFileName().toString().replace(".java", "");
                due.answer("the table has " + name, text.contains("\n| `" + name + "` |"), true);
            }
        }
    }
}
