import java.io.IOException;
import java.lang.reflect.Constructor;
import java.lang.reflect.Field;
import java.lang.reflect.Method;
import java.lang.reflect.Modifier;
import java.nio.charset.StandardCharsets;
import java.nio.file.Files;
import java.nio.file.Path;
import java.util.Set;
import java.util.TreeSet;
import java.util.regex.Matcher;
import java.util.regex.Pattern;

/** The face, and of ../shared/LANGUAGE.md what can be seen from outside; run from the project's root. */
public final class LanguageTest {
    private static final String FACE = "now gas stone move open feed cut trial asker rules lend back loan piece was weigh drifts "
            + "found thing way give sight where ask clear loss best judge next check sum count";

    public static void main(String[] args) throws IOException {
        face();
        classesInside();
        source(Files.readString(Path.of("src/main/java/StoneVault.java"), StandardCharsets.UTF_8));
        Expect.end();
    }

    private static void face() {
        Set<String> names = new TreeSet<>();
        Set<String> hidden = new TreeSet<>();
        for (Method method : StoneVault.class.getDeclaredMethods()) {
            boolean isPublic = Modifier.isPublic(method.getModifiers());
            Expect.due(1, method + " is public or private", isPublic || Modifier.isPrivate(method.getModifiers()), true);
            (isPublic ? names : hidden).add(method.getName());
        }
        Set<String> want = new TreeSet<>(Set.of(FACE.split(" ")));
        Expect.due(1, "the public methods " + names, names.equals(want), true);
        hidden.retainAll(names);
        Expect.due(1, "private ones with a public one's name " + hidden, hidden.size(), 0);
        for (Field field : StoneVault.class.getDeclaredFields()) {
            boolean open = field.getName().equals("NONE");
            Expect.due(1, field + " is private", Modifier.isPrivate(field.getModifiers()), !open);
        }
        Constructor<?>[] constructors = StoneVault.class.getDeclaredConstructors();
        Expect.due(1, "one constructor", constructors.length, 1);
        Expect.due(1, "the class is final", Modifier.isFinal(StoneVault.class.getModifiers()), true);
        Expect.due(1, "NONE", StoneVault.NONE, -1);
    }

    private static void classesInside() {
        Class<?>[] inside = StoneVault.class.getDeclaredClasses();
        Expect.due(1, "some twelve classes", inside.length < 12, true);
        for (Class<?> one : inside) {
            Expect.due(1, one + " is static", Modifier.isStatic(one.getModifiers()), true);
            int fields = 0;
            for (Field field : one.getDeclaredFields()) {
                boolean isStatic = Modifier.isStatic(field.getModifiers());
                Expect.due(1, field + " is no state of all", !isStatic || Modifier.isFinal(field.getModifiers()), true);
                fields += isStatic ? 0 : 1;
            }
            Expect.due(1, one + " has some twenty fields", fields <= 20, true);
            for (Method method : one.getDeclaredMethods()) {
                Expect.due(1, method + " has seven parameters at most", method.getParameterCount() <= 7, true);
                Expect.due(1, method + " bears no public name", (" " + FACE + " ").contains(" " + method.getName() + " "), false);
            }
        }
    }

    private static void source(String source) {
        String code = source.replaceAll("(?s)/\\*.*?\\*/", " ").replaceAll("//[^\n]*", " ").replaceAll("\"[^\"\n]*\"", "\"\"");
        String banned = "\\b(throw|throws|try|catch|synchronized|assert|import|package|hashCode|toString)\\b|->|::|@";
        Matcher found = Pattern.compile(banned).matcher(code);
        Expect.due(1, "banned words", found.find(), false);
        for (int i = 0; i < source.length(); i++) {
            Expect.due(1, "sign at " + i, source.charAt(i) < 128, true);
        }
        madeInConstructors(code);
    }

    /** Nothing is made by a call: the room of a run is that of its objects. */
    private static void madeInConstructors(String code) {
        boolean inConstructor = false;
        for (String line : code.split("\n")) {
            if (line.matches(" {4}(    )?\\S.*[({]\\s*")) {
                inConstructor = line.trim().matches("(public )?[A-Z]\\w*\\(\\) \\{");
            }
            if (line.matches(".*\\bnew\\b.*")) {
                Expect.due(1, "made outside a constructor: " + line.trim(), inConstructor, true);
            }
        }
    }
}
