import java.io.IOException;
import java.lang.reflect.Method;
import java.nio.file.Files;
import java.nio.file.Path;
import java.util.regex.Matcher;
import java.util.regex.Pattern;

/** The examples of README.md: every call has to answer what the comment behind it begins with. */
public final class ReadmeTest {
    private static final Pattern BLOCK = Pattern.compile("(?ms)^```java\n(.*?)^```$");
    private static final Pattern CALL = Pattern.compile("q\\.(\\w+)\\((.*?)\\);\\s*// (-?\\w+)(:.*)?");
    private static final String MADE = "NullQueries q = new NullQueries();";

    private static final Due due = new Due();

    public static void main(String[] args) throws IOException, ReflectiveOperationException {
        Matcher block = BLOCK.matcher(Files.readString(Path.of("README.md")));
        int blocks = 0;
        while (block.find()) {
            runBlock(block.group(1));
            blocks++;
        }
        due.is("README.md has examples", blocks > 0 ? 1 : 0, 1);
        due.end();
    }

    private static void runBlock(String block) throws ReflectiveOperationException {
        NullQueries q = new NullQueries();
        String[] lines = block.split("\n");
        due.is("an example begins with " + MADE, lines[0].equals(MADE) ? 1 : 0, 1);
        for (int i = 1; i < lines.length; i++) {
            Matcher call = CALL.matcher(lines[i]);
            if (call.matches()) {
                due.is("README.md: " + lines[i], answerOf(q, call.group(1), call.group(2)), numberOf(call.group(3)));
            } else {
                due.is("a line that is no call with its answer: " + lines[i], 0, lines[i].isEmpty() ? 0 : 1);
            }
        }
    }

    private static int answerOf(NullQueries q, String name, String written) throws ReflectiveOperationException {
        String[] words = written.isEmpty() ? new String[0] : written.split(", ");
        Object[] arguments = new Object[words.length];
        for (int i = 0; i < words.length; i++) {
            arguments[i] = argumentOf(words[i]);
        }
        for (Method method : NullQueries.class.getMethods()) {
            if (method.getName().equals(name) && method.getParameterCount() == arguments.length) {
                return (int) method.invoke(q, arguments);
            }
        }
        throw new NoSuchMethodException(name);
    }

    private static Object argumentOf(String written) throws ReflectiveOperationException {
        if (written.equals("true") || written.equals("false")) {
            return Boolean.valueOf(written);
        }
        return numberOf(written);
    }

    /** A number, or one of the constants of the class. */
    private static int numberOf(String written) throws ReflectiveOperationException {
        if (written.matches("-?\\d+")) {
            return Integer.parseInt(written);
        }
        return NullQueries.class.getField(written.replace("NullQueries.", "")).getInt(null);
    }
}
