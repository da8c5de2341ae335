import java.io.IOException;
import java.nio.file.Files;
import java.nio.file.Path;
import java.util.LinkedHashMap;
import java.util.Map;
import java.util.Set;
import java.util.TreeSet;
import java.util.regex.Matcher;
import java.util.regex.Pattern;

/** Those rules of LANGUAGE.md that can be seen in the text of the class. */
public final class RulesTest {
    private static final String FORBIDDEN = "\\b(import|package|throw|throws|try|catch|synchronized|assert|instanceof|null"
            + "|float|double|String|Math|Integer|Long|System|Arrays|Object|record|enum|interface|protected)\\b|->|::";
    private static final Pattern METHOD = Pattern.compile(
            "(?ms)^    (?:public|private) (?:static )?\\w+ (\\w+)\\([^)]*\\) \\{\n(.*?)^    \\}$");
    private static final Pattern CALL = Pattern.compile("\\b(\\w+)\\(");
    private static final int MOST_LINES = 60;
    private static final int MOST_DEEP = 6;

    private static final Map<String, String> bodies = new LinkedHashMap<>();
    private static int wrong;

    public static void main(String[] args) throws IOException {
        String text = Files.readString(Path.of("src/main/java/NullQueries.java"));
        String code = text.replaceAll("(?s)/\\*.*?\\*/", "").replaceAll("//[^\n]*", "");
        findMethods(code);
        forbiddenWords(code);
        arraysInInitialisers(code);
        for (String name : bodies.keySet()) {
            shortMethod(name);
            noCallInArguments(name);
            depth(name, new TreeSet<>());
        }
        System.out.println(wrong == 0 ? bodies.size() + " methods keep to the rules" : wrong + " breaches of the rules");
        if (wrong != 0) {
            System.exit(1);
        }
    }

    private static void breach(int rule, String what) {
        wrong++;
        System.out.println("rule " + rule + ": " + what);
    }

    private static void findMethods(String code) {
        Matcher method = METHOD.matcher(code);
        while (method.find()) {
            bodies.put(method.group(1), method.group(2));
        }
        // Every method has to be found, or the other checks pass over it.
        int declared = NullQueries.class.getDeclaredMethods().length;
        if (bodies.size() != declared) {
            breach(1, declared + " methods, but in the text are seen " + bodies.keySet());
        }
    }

    private static void forbiddenWords(String code) {
        Matcher forbidden = Pattern.compile(FORBIDDEN).matcher(code);
        while (forbidden.find()) {
            breach(3, "the word " + forbidden.group());
        }
    }

    private static void arraysInInitialisers(String code) {
        for (String line : code.split("\n")) {
            boolean initialiser = line.matches("    private final (int|long|boolean)\\[\\] \\w+ = new \\1\\[[A-Z_]+\\];");
            if (line.matches(".*\\bnew\\b.*") && !initialiser) {
                breach(4, "new outside of a field's initialiser: " + line);
            }
        }
    }

    private static void shortMethod(String name) {
        long lines = bodies.get(name).lines().count();
        if (lines > MOST_LINES) {
            breach(10, name + " has " + lines + " lines");
        }
    }

    private static Set<String> callsIn(String code) {
        Set<String> called = new TreeSet<>();
        Matcher call = CALL.matcher(code);
        while (call.find()) {
            if (bodies.containsKey(call.group(1))) {
                called.add(call.group(1));
            }
        }
        return called;
    }

    private static void noCallInArguments(String name) {
        String body = bodies.get(name);
        Matcher call = CALL.matcher(body);
        while (call.find()) {
            String arguments = upToClosing(body, call.end());
            if (bodies.containsKey(call.group(1)) && !callsIn(arguments).isEmpty()) {
                breach(10, "in " + name + " a call in the arguments of " + call.group(1) + ": " + arguments);
            }
        }
    }

    private static String upToClosing(String code, int start) {
        int open = 1;
        int end = start;
        while (open > 0) {
            open += code.charAt(end) == '(' ? 1 : code.charAt(end) == ')' ? -1 : 0;
            end++;
        }
        return code.substring(start, end - 1);
    }

    /** How deep calls go from a method on, itself among them; around are the methods that it is called from. */
    private static int depth(String name, Set<String> around) {
        if (around.contains(name)) {
            breach(8, "recursion of " + name + " through " + around);
            return 0;
        }
        Set<String> path = new TreeSet<>(around);
        path.add(name);
        int deepest = 0;
        for (String called : callsIn(bodies.get(name))) {
            deepest = Math.max(deepest, depth(called, path));
        }
        if (around.isEmpty() && deepest + 1 > MOST_DEEP) {
            breach(10, "calls go " + (deepest + 1) + " deep from " + name);
        }
        return deepest + 1;
    }
}
