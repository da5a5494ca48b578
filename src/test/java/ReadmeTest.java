import java.io.ByteArrayOutputStream;
import java.io.IOException;
import java.io.PrintStream;
import java.lang.reflect.InvocationTargetException;
import java.net.URL;
import java.net.URLClassLoader;
import java.nio.charset.StandardCharsets;
import java.nio.file.Files;
import java.nio.file.Path;
import java.util.ArrayList;
import java.util.List;
import javax.tools.JavaCompiler;
import javax.tools.ToolProvider;

/** README.md: its example holds as it is written, and its numbers are those of the class. */
public final class ReadmeTest {
    private static final Check T = new Check("ReadmeTest");

    public static void main(String[] args) throws Exception {
        List<String> readme = Files.readAllLines(Path.of("README.md"), StandardCharsets.UTF_8);
        exampleHolds(readme);
        numbersOfTheTable(readme);
        faultsOfTheTable(readme);
        allCallsAreTold(readme);
        T.end();
    }

    /** The lines of the first block of a sort. */
    private static List<String> block(List<String> readme, String sort) {
        int from = readme.indexOf("```" + sort) + 1;
        int to = from;
        while (to < readme.size() && !readme.get(to).equals("```")) {
            to++;
        }
        return readme.subList(from, to);
    }

    private static void exampleHolds(List<String> readme) throws Exception {
        Path place = Files.createTempDirectory("readme");
        Path file = place.resolve("Example.java");
        Files.write(file, block(readme, "java"));
        JavaCompiler compiler = ToolProvider.getSystemJavaCompiler();
        int refused = compiler.run(null, null, null, "-cp", System.getProperty("java.class.path"), "-d",
                place.toString(), file.toString());
        T.due("the example compiles", refused, 0);
        List<String> printed = refused == 0 ? run(place) : new ArrayList<>();
        List<String> told = block(readme, "text");
        T.due("lines that the example prints", printed.size(), told.size());
        for (int i = 0; i < Math.min(told.size(), printed.size()); i++) {
            T.due("'" + told.get(i) + "' is printed, not '" + printed.get(i) + "'",
                    told.get(i).equals(printed.get(i)) ? 1 : 0, 1);
        }
        delete(place);
    }

    private static List<String> run(Path place) throws Exception {
        PrintStream before = System.out;
        ByteArrayOutputStream bytes = new ByteArrayOutputStream();
        URL[] urls = {place.toUri().toURL()};
        try (URLClassLoader loader = new URLClassLoader(urls, ReadmeTest.class.getClassLoader());
                PrintStream to = new PrintStream(bytes, true, StandardCharsets.UTF_8)) {
            System.setOut(to);
            loader.loadClass("Example").getMethod("main", String[].class).invoke(null, (Object) new String[0]);
        } catch (InvocationTargetException e) {
            T.due("the example throws " + e.getCause(), 1, 0);
        } finally {
            System.setOut(before);
        }
        return bytes.toString(StandardCharsets.UTF_8).lines().toList();
    }

    private static void delete(Path place) throws IOException {
        try (var files = Files.list(place)) {
            for (Path file : files.toList()) {
                Files.delete(file);
            }
        }
        Files.delete(place);
    }

    /** Whether a row of a table begins with these. */
    private static void dueRow(List<String> readme, Object... cells) {
        StringBuilder row = new StringBuilder("|");
        for (Object cell : cells) {
            row.append(' ').append(cell).append(" |");
        }
        T.due("README.md has the row " + row, readme.stream().filter(l -> l.startsWith(row.toString())).count(), 1);
    }

    private static void numbersOfTheTable(List<String> readme) {
        HotPennies x = Check.told("law 0;child small 0 0 1;");
        dueRow(readme, "`BAD`", x.count(7), "as before");
        dueRow(readme, "`STATE`", x.undo(), "as before");
        Check.feed(x, " ".repeat(300));
        dueRow(readme, "`FULL`", x.feed(32, 1), "as before");
        dueRow(readme, "(NULL)", x.set(0, 0, 0), x.status());
        x.row(0, 0, 1);
        dueRow(readme, "(PLACE)", x.set(0, 1, 0), x.status());
        dueRow(readme, "(KIND)", x.as(0, 2), x.status());
        dueRow(readme, "(SIZE)", x.row(0, 0, -1), x.status());
        x.row(1, 1, 1);
        dueRow(readme, "(STORE)", x.copy(0, 0, 1, 0, 1), x.status());
        String none = "`NONE` (" + x.trace(0) + ")";
        T.due("README.md tells of " + none, readme.stream().filter(l -> l.contains(none)).count(), 1);
    }

    private static void faultsOfTheTable(List<String> readme) {
        String[] texts = {"", "law", "law 21;", "law 0;" + "drain 0 0;".repeat(7)};
        for (int number = 0; number < texts.length; number++) {
            HotPennies x = new HotPennies();
            Check.feed(x, texts[number]);
            if (number > 0) {
                x.square();
            }
            T.due("fault() of '" + texts[number] + "'", x.fault(), number);
            dueRow(readme, number);
        }
    }

    private static void allCallsAreTold(List<String> readme) {
        for (var call : HotPennies.class.getDeclaredMethods()) {
            if (java.lang.reflect.Modifier.isPublic(call.getModifiers())) {
                String name = "`" + call.getName() + "`";
                T.due("README.md tells of " + name,
                        readme.stream().anyMatch(l -> l.startsWith("| ") && l.contains(name)) ? 1 : 0, 1);
            }
        }
    }
}
