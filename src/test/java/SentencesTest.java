import java.io.IOException;
import java.nio.charset.StandardCharsets;
import java.nio.file.Files;
import java.nio.file.Path;
import java.util.Set;
import java.util.TreeSet;
import java.util.regex.Matcher;
import java.util.regex.Pattern;

/** src/test/SENTENCES.md: each test that it names is there, and is run; no promise is left out. */
public final class SentencesTest {
    private static final Pattern NAMED = Pattern.compile("\\b([A-Z]\\w+Test)\\.(\\w+)");
    private static final Pattern PROMISE = Pattern.compile("^\\| (\\d+)[ \\w]* \\| ");

    private static final Check T = new Check("SentencesTest");

    public static void main(String[] args) throws IOException {
        Set<Integer> promises = new TreeSet<>();
        for (String line : Files.readAllLines(Path.of("src/test/SENTENCES.md"), StandardCharsets.UTF_8)) {
            Matcher promise = PROMISE.matcher(line);
            if (promise.find()) {
                promises.add(Integer.parseInt(promise.group(1)));
                T.due("a test holds: " + line, NAMED.matcher(line).find() ? 1 : 0, 1);
            }
            Matcher named = NAMED.matcher(line);
            while (named.find()) {
                isRun(named.group(1), named.group(2));
            }
        }
        for (int n = 1; n <= 32; n++) {
            T.due("promise " + n + " is there", promises.contains(n) ? 1 : 0, 1);
        }
        T.end();
    }

    /** A method that is told, and called by another line of its class. */
    private static void isRun(String test, String method) throws IOException {
        Path file = Path.of("src/test/java/" + test + ".java");
        T.due(test + " is there", Files.exists(file) ? 1 : 0, 1);
        if (Files.exists(file)) {
            String text = Files.readString(file, StandardCharsets.UTF_8);
            T.due(test + "." + method + " is there", text.contains("void " + method + "(") ? 1 : 0, 1);
            boolean called = Pattern.compile("^ +(test\\.)?" + method + "\\(", Pattern.MULTILINE).matcher(text).find();
            T.due(test + "." + method + " is run", called ? 1 : 0, 1);
        }
    }
}
