import java.io.IOException;
import java.nio.charset.StandardCharsets;
import java.nio.file.Files;
import java.nio.file.Path;
import java.util.Map;
import java.util.Set;
import java.util.TreeMap;
import java.util.TreeSet;
import java.util.regex.Matcher;
import java.util.regex.Pattern;

/** LANGUAGE.md, rule 11: calls that are no recursion go at most eight deep, and methods stay short; run from the project's root. */
public final class CallDepthTest {
    private static final Pattern CLASS = Pattern.compile(" {4}private static final class (\\w+) \\{");
    private static final Pattern METHOD = Pattern.compile("( {4}| {8})(?:[\\w\\[\\]]+ )+(\\w+)\\([^)]*\\) \\{");
    private static final Pattern CALL = Pattern.compile("(?:(\\w+)\\.)?(\\w+)\\(");
    private static final Pattern PART = Pattern.compile("(\\w+) (\\w+)(?=[;,)])");

    /** By "Class.method": its lines, and what they call. */
    private static final Map<String, StringBuilder> METHODS = new TreeMap<>();
    private static final Map<String, Set<String>> CALLS = new TreeMap<>();
    private static final Map<String, Set<String>> REACHED = new TreeMap<>();

    public static void main(String[] args) throws IOException {
        String source = Files.readString(Path.of("src/main/java/StoneVault.java"), StandardCharsets.UTF_8);
        String code = source.replaceAll("(?s)/\\*.*?\\*/", " ").replaceAll("//[^\n]*", " ");
        Map<String, String> parts = ownParts(code);
        splitIntoMethods(code);
        for (String method : METHODS.keySet()) {
            CALLS.put(method, callsOf(method, parts));
        }
        for (String method : METHODS.keySet()) {
            REACHED.put(method, new TreeSet<>());
            reach(method, REACHED.get(method));
        }
        Expect.due(1, "some 200 methods are seen", METHODS.size() > 150, true);
        Expect.due(1, "recursion of the reader is seen", REACHED.get("RuleReader.readSum").contains("RuleReader.readSum"), true);
        for (String method : METHODS.keySet()) {
            Expect.due(1, "depth of calls from " + method, Math.max(depth(method), 8), 8);
            int lines = METHODS.get(method).toString().split("\n").length;
            Expect.due(1, "lines of " + method + ", " + lines, lines <= 60, true);
        }
        Expect.due(1, "lend reaches the signs of a text", REACHED.get("StoneVault.lend").contains("RuleReader.sign"), true);
        Expect.end();
    }

    /** The fields and arguments that are objects of the file's own classes. */
    private static Map<String, String> ownParts(String code) {
        Set<String> classes = new TreeSet<>();
        Matcher inside = CLASS.matcher(code);
        while (inside.find()) {
            classes.add(inside.group(1));
        }
        Map<String, String> parts = new TreeMap<>();
        Matcher part = PART.matcher(code);
        while (part.find()) {
            if (classes.contains(part.group(1))) {
                parts.put(part.group(2), part.group(1));
            }
        }
        return parts;
    }

    private static void splitIntoMethods(String code) {
        String owner = "StoneVault";
        StringBuilder lines = new StringBuilder();
        for (String line : code.split("\n")) {
            Matcher inside = CLASS.matcher(line);
            Matcher method = METHOD.matcher(line);
            if (inside.matches()) {
                owner = inside.group(1);
            } else if (method.matches()) {
                lines = new StringBuilder();
                METHODS.put(owner + "." + method.group(2), lines);
            } else {
                lines.append(line).append('\n');
            }
        }
    }

    private static Set<String> callsOf(String method, Map<String, String> parts) {
        Set<String> calls = new TreeSet<>();
        String owner = method.substring(0, method.indexOf('.'));
        Matcher call = CALL.matcher(METHODS.get(method));
        while (call.find()) {
            String object = call.group(1);
            String own = (object == null ? owner : parts.get(object)) + "." + call.group(2);
            String outer = "StoneVault." + call.group(2);
            if (METHODS.containsKey(own)) {
                calls.add(own);
            } else if (object == null && METHODS.containsKey(outer)) {
                calls.add(outer);
            }
        }
        return calls;
    }

    private static void reach(String method, Set<String> reached) {
        for (String called : CALLS.get(method)) {
            if (reached.add(called)) {
                reach(called, reached);
            }
        }
    }

    /** Methods that call one another count once together. */
    private static int depth(String method) {
        int below = 0;
        for (String called : REACHED.get(method)) {
            if (!REACHED.get(called).contains(method)) {
                below = Math.max(below, depth(called));
            }
        }
        return below + 1;
    }
}
