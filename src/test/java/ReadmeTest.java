import java.io.IOException;
import java.lang.reflect.Method;
import java.nio.charset.StandardCharsets;
import java.nio.file.Files;
import java.nio.file.Path;
import java.util.regex.Matcher;
import java.util.regex.Pattern;

/** Each call that README.md shows answers what stands behind it; run from the project's root. */
public final class ReadmeTest {
    private static final Pattern SHOWN = Pattern.compile("vault\\.(\\w+)\\(([^)]*)\\); +// (true|false|-?\\d+).*");

    public static void main(String[] args) throws ReflectiveOperationException, IOException {
        StoneVault vault = new StoneVault();
        int shown = 0;
        for (String line : Files.readString(Path.of("README.md"), StandardCharsets.UTF_8).split("\n")) {
            Matcher call = SHOWN.matcher(line);
            if (call.matches()) {
                shown++;
                Expect.due(1, line, number(ask(vault, call.group(1), call.group(2))), number(call.group(3)));
            }
            Expect.due(1, "an answer stands behind " + line, line.startsWith("vault."), call.matches());
        }
        Expect.due(1, "calls are shown", shown > 40, true);
        Expect.end();
    }

    private static Object ask(StoneVault vault, String name, String told) throws ReflectiveOperationException {
        for (Method method : StoneVault.class.getMethods()) {
            if (method.getName().equals(name) && method.getDeclaringClass() == StoneVault.class) {
                String[] words = told.split(", *");
                Object[] values = new Object[words.length];
                for (int i = 0; i < words.length; i++) {
                    boolean isBoolean = method.getParameterTypes()[i] == boolean.class;
                    values[i] = isBoolean ? (Object) Boolean.valueOf(words[i]) : (Object) Integer.decode(words[i]);
                }
                return method.invoke(vault, values);
            }
        }
        return "no method " + name;
    }

    private static long number(Object answer) {
        String text = answer.toString();
        return text.equals("true") ? 1 : text.equals("false") ? 0 : Long.parseLong(text);
    }
}
