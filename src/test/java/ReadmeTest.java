import java.io.ByteArrayOutputStream;
import java.io.IOException;
import java.io.PrintStream;
import java.lang.reflect.Modifier;
import java.net.URL;
import java.net.URLClassLoader;
import java.nio.charset.StandardCharsets;
import java.nio.file.Files;
import java.nio.file.Path;
import java.util.ArrayList;
import java.util.List;
import java.util.regex.Matcher;
import java.util.regex.Pattern;
import javax.tools.ToolProvider;

/** That README.md tells the truth: its example is compiled and run, and its tables leave nothing out. */
public final class ReadmeTest {
    private static final Pattern EXAMPLE = Pattern.compile("(?s)```java\n(.*?)```");
    private static final Pattern SHOWN = Pattern.compile("show\\(sheet.*\\); *// (-?\\d+|[A-Z_]+)");

    private ReadmeTest() {
    }

    public static void main(String[] args) throws ReflectiveOperationException, IOException {
        String readme = Files.readString(Path.of("README.md"));
        Matcher example = EXAMPLE.matcher(readme);
        boolean isThere = example.find();
        Check.due("an example", isThere);
        if (isThere) {
            compare(promised(example.group(1)), shown(example.group(1)));
        }
        nothingLeftOut(readme);
        Check.finish("ReadmeTest");
    }

    /** What stands behind the lines that show an answer. */
    private static List<Long> promised(String example) throws ReflectiveOperationException {
        List<Long> promised = new ArrayList<>();
        for (String line : example.split("\n")) {
            Matcher shown = SHOWN.matcher(line);
            boolean isShown = shown.find();
            Check.due("an answer behind: " + line, isShown == line.contains("show(sheet"));
            if (isShown) {
                promised.add(number(shown.group(1)));
            }
        }
        return promised;
    }

    private static long number(String word) throws ReflectiveOperationException {
        boolean isNumber = word.matches("-?\\d+");
        return isNumber ? Long.parseLong(word) : CutoffSheet.class.getField(word).getInt(null);
    }

    /** What the example prints. */
    private static List<Long> shown(String example) throws ReflectiveOperationException, IOException {
        Path folder = Files.createTempDirectory("readme");
        Path source = folder.resolve("Example.java");
        Path compiled = folder.resolve("Example.class");
        Files.writeString(source, example);
        String classes = System.getProperty("java.class.path");
        int failure = ToolProvider.getSystemJavaCompiler().run(null, null, null,
                "-cp", classes, "-d", folder.toString(), source.toString());
        Check.due("compiling the example", failure, 0);
        List<Long> shown = failure == 0 ? printedBy(folder) : List.of();
        Files.deleteIfExists(compiled);
        Files.delete(source);
        Files.delete(folder);
        return shown;
    }

    private static List<Long> printedBy(Path folder) throws ReflectiveOperationException, IOException {
        PrintStream before = System.out;
        ByteArrayOutputStream printed = new ByteArrayOutputStream();
        try (URLClassLoader loader = new URLClassLoader(new URL[] {folder.toUri().toURL()})) {
            System.setOut(new PrintStream(printed, true, StandardCharsets.UTF_8));
            loader.loadClass("Example").getMethod("main", String[].class).invoke(null, (Object) new String[0]);
        } finally {
            System.setOut(before);
        }
        return printed.toString(StandardCharsets.UTF_8).lines().map(Long::valueOf).toList();
    }

    private static void compare(List<Long> promised, List<Long> shown) {
        Check.due("lines that the example shows", shown.size(), promised.size());
        for (int line = 0; line < Math.min(promised.size(), shown.size()); line++) {
            Check.due("line " + line + " that the example shows", shown.get(line), promised.get(line));
        }
    }

    private static void nothingLeftOut(String readme) throws IOException {
        for (var method : CutoffSheet.class.getDeclaredMethods()) {
            if (Modifier.isPublic(method.getModifiers())) {
                Check.due("told: " + method.getName(), readme.contains("`" + method.getName() + "`"));
            }
        }
        try (var files = Files.list(Path.of("src/test/java"))) {
            for (Path file : files.toList()) {
                String name = file.getFileName().toString().replace(".java", "");
                Check.due("told: " + name, !name.endsWith("Test") || readme.contains("`" + name + "`"));
            }
        }
    }
}
