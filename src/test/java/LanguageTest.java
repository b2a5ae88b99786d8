import java.io.IOException;
import java.lang.reflect.Field;
import java.lang.reflect.Method;
import java.lang.reflect.Modifier;
import java.nio.file.Files;
import java.nio.file.Path;
import java.util.Set;
import java.util.TreeSet;
import java.util.regex.Matcher;
import java.util.regex.Pattern;

/** What can be seen of LANGUAGE.md from outside: the face, the words that are not used, static state. */
public final class LanguageTest {
    private static final Set<String> FACE = new TreeSet<>(Set.of("feed", "cut", "out", "word", "spell", "stem", "step",
            "measure", "mark", "pair", "row", "rowless", "affix", "base", "least", "part", "key", "text", "token", "told"));
    private static final Set<String> CONSTANTS = new TreeSet<>(Set.of("UNKNOWN", "OUTSIDE", "STATE", "FULL", "NONE"));

    public static void main(String[] args) throws IOException {
        face();
        classesInside();
        words();
        Desk.end();
    }

    private static void face() {
        Class<?> c = StemRules.class;
        Desk.due("public final", c.getModifiers(), Modifier.PUBLIC | Modifier.FINAL);
        Desk.due("constructors", c.getDeclaredConstructors().length, c.getConstructors().length);
        Set<String> methods = new TreeSet<>();
        for (Method m : c.getDeclaredMethods()) {
            boolean isPublic = Modifier.isPublic(m.getModifiers());
            Desk.due(m + " is public or private", isPublic || Modifier.isPrivate(m.getModifiers()) ? 1 : 0, 1);
            Desk.due(m + " bears a name of the face", FACE.contains(m.getName()) ? 1 : 0, isPublic ? 1 : 0);
            if (isPublic) {
                methods.add(m.getName());
            }
        }
        Desk.due("the face", methods.toString(), FACE.toString());
        Set<String> constants = new TreeSet<>();
        for (Field f : c.getFields()) {
            constants.add(f.getName());
        }
        Desk.due("the constants", constants.toString(), CONSTANTS.toString());
    }

    private static void classesInside() {
        fields(StemRules.class);
        Class<?>[] inside = StemRules.class.getDeclaredClasses();
        Desk.due("classes, twelve at most", inside.length + 1 <= 12 ? 1 : 0, 1);
        for (Class<?> c : inside) {
            Desk.due(c + " is static", Modifier.isStatic(c.getModifiers()) ? 1 : 0, 1);
            fields(c);
            for (Method m : c.getDeclaredMethods()) {
                Desk.due(m + " bears a name of the face", FACE.contains(m.getName()) ? 1 : 0, 0);
            }
        }
    }

    private static void fields(Class<?> c) {
        for (Field f : c.getDeclaredFields()) {
            if (Modifier.isStatic(f.getModifiers())) {
                Desk.due(f + " is final", Modifier.isFinal(f.getModifiers()) ? 1 : 0, 1);
            }
            if (c == StemRules.class && !CONSTANTS.contains(f.getName())) {
                Desk.due(f + " is private", Modifier.isPrivate(f.getModifiers()) ? 1 : 0, 1);
            }
        }
    }

    private static void words() throws IOException {
        String source = Files.readString(Path.of("src/main/java/StemRules.java"));
        String code = source.replaceAll("(?s)/\\*.*?\\*/", " ").replaceAll("//[^\n]*", " ")
                .replaceAll("\"[^\"\n]*\"", "\"\"");
        Matcher m = Pattern.compile("\\b(throw|throws|try|catch|synchronized|assert|import|package|protected)\\b|->|::|\\w+Exact\\b")
                .matcher(code);
        while (m.find()) {
            Desk.due("the code has " + m.group(), 1, 0);
        }
        for (int i = 0; i < source.length(); i++) {
            if (source.charAt(i) > 255) {
                Desk.due("a character above 255 at " + i, source.charAt(i), 0);
            }
        }
    }
}
