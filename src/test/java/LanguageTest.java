import java.io.IOException;
import java.lang.reflect.Constructor;
import java.lang.reflect.Field;
import java.lang.reflect.Method;
import java.lang.reflect.Modifier;
import java.nio.charset.StandardCharsets;
import java.nio.file.Files;
import java.nio.file.Path;
import java.util.ArrayList;
import java.util.Arrays;
import java.util.List;
import java.util.Set;
import java.util.TreeSet;
import java.util.regex.Pattern;

/** The public face to the letter, and those rules of LANGUAGE.md that can be seen from outside. */
public final class LanguageTest {
    private static final String[] FACE = {
        "row(int, int, int)", "set(int, int, int)", "copy(int, int, int, int, int)", "drop(int)", "feed(long, int)",
        "square()", "fault()", "toss(int, int, int, int)", "run(int, int)", "corner(int, int)", "undo()",
        "child(int, int)", "cell(int, int)", "power(int, int)", "mean(int, int, int, int)",
        "some(int, int, int, int, int)", "stand(int, int, int)", "brothers(int, int, int, int, int)",
        "rounds(int, int, int)", "aim(int, int)", "throwsFor(int, int)", "cool(int, int, int)",
        "stood(int, int, int, int, int)", "image(int)", "restore(int)", "kind(int)", "as(int, int)",
        "ask(int, int)", "trace(int)", "count(int)", "status()"};
    private static final String FORBIDDEN = "\\b(throw|throws|try|catch|synchronized|assert|native|volatile|transient"
            + "|Object|Random|System\\.(?!arraycopy)\\w+|Thread|\\w+Exact)\\b|::|static \\{|^package ";
    private static final String IMPORT = "import java\\.util\\.(ArrayList|Arrays|Iterator|List);";
    // "some twelve classes", "some twenty fields", "some sixty lines": a few more are meant to be fine.
    private static final int CLASSES = 14, FIELDS = 24, LINES = 66;

    private static final Check T = new Check("LanguageTest");

    public static void main(String[] args) throws IOException {
        face();
        insides();
        source(Files.readAllLines(Path.of("src/main/java/HotPennies.java"), StandardCharsets.ISO_8859_1));
        T.end();
    }

    private static void holds(String rule, boolean held) {
        T.due(rule, held ? 1 : 0, 1);
    }

    private static String form(Method m) {
        List<String> types = new ArrayList<>();
        for (Class<?> type : m.getParameterTypes()) {
            types.add(type.getName());
        }
        return m.getName() + "(" + String.join(", ", types) + ")";
    }

    private static void face() {
        Class<?> c = HotPennies.class;
        holds("the class is public and final", Modifier.isPublic(c.getModifiers()) && Modifier.isFinal(c.getModifiers()));
        Set<String> seen = new TreeSet<>();
        for (Method m : c.getDeclaredMethods()) {
            if (!Modifier.isPrivate(m.getModifiers())) {
                seen.add(form(m));
                holds(form(m) + " is public, not static, answers an int", Modifier.isPublic(m.getModifiers())
                        && !Modifier.isStatic(m.getModifiers()) && m.getReturnType() == int.class);
            }
        }
        holds("the methods are " + seen, seen.equals(new TreeSet<>(Arrays.asList(FACE))));
        Set<String> constants = new TreeSet<>();
        for (Field f : c.getDeclaredFields()) {
            if (!Modifier.isPrivate(f.getModifiers())) {
                constants.add(f.getName());
                holds(f.getName() + " is a constant", f.getType() == int.class && Modifier.isPublic(f.getModifiers())
                        && Modifier.isStatic(f.getModifiers()) && Modifier.isFinal(f.getModifiers()));
            }
        }
        holds("the constants are " + constants, constants.equals(Set.of("NONE", "BAD", "STATE", "FULL")));
        Constructor<?>[] made = c.getDeclaredConstructors();
        holds("one constructor, public, without arguments",
                made.length == 1 && Modifier.isPublic(made[0].getModifiers()) && made[0].getParameterCount() == 0);
    }

    private static void insides() {
        List<Class<?>> all = new ArrayList<>(List.of(HotPennies.class.getDeclaredClasses()));
        all.add(HotPennies.class);
        holds("some twelve classes", all.size() <= CLASSES);
        Set<String> names = new TreeSet<>();
        for (String form : FACE) {
            names.add(form.substring(0, form.indexOf('(')));
        }
        for (Class<?> c : all) {
            boolean outer = c == HotPennies.class;
            holds(c + " is static and not public", outer || Modifier.isStatic(c.getModifiers()) && !Modifier.isPublic(c.getModifiers()));
            int fields = 0;
            for (Field f : c.getDeclaredFields()) {
                fields += Modifier.isStatic(f.getModifiers()) ? 0 : 1;
                holds("static is final: " + f, !Modifier.isStatic(f.getModifiers()) || Modifier.isFinal(f.getModifiers()));
            }
            holds("some twenty fields: " + c, fields <= FIELDS);
            for (Method m : c.getDeclaredMethods()) {
                holds("no equals, hashCode, toString of its own: " + m, c.isRecord()
                        || !m.getName().matches("equals|hashCode|toString"));
                holds("at most seven parameters: " + m, m.getParameterCount() <= 7);
                holds("no private one bears a public one's name: " + m,
                        outer && Modifier.isPublic(m.getModifiers()) || !names.contains(m.getName()));
            }
        }
    }

    private static void source(List<String> lines) {
        int begun = 0;
        for (int i = 0; i < lines.size(); i++) {
            String line = lines.get(i);
            String code = line.replaceAll("//.*|^\\s*/?\\*.*", "");
            String place = "line " + (i + 1) + ": " + line.strip();
            boolean isCase = code.matches(" *(case .*|default) -> .*");
            holds("nothing that is forbidden, " + place, !Pattern.compile(FORBIDDEN).matcher(code).find());
            holds("no lambda, " + place, isCase || !code.contains("->"));
            holds("no library but four, " + place, !code.startsWith("import ") || code.matches(IMPORT));
            if (code.matches(" +(public|private) .*\\) \\{")) {
                begun = i;
            }
            holds("some sixty lines, " + place, !code.matches(" {4,8}\\}") || i - begun < LINES || isEndOfClass(lines, i));
        }
    }

    private static boolean isEndOfClass(List<String> lines, int i) {
        return i > 0 && lines.get(i - 1).matches(" +\\}");
    }
}
