import java.io.IOException;
import java.lang.reflect.Field;
import java.lang.reflect.Modifier;
import java.nio.file.Files;
import java.nio.file.Path;
import java.util.ArrayList;
import java.util.Arrays;
import java.util.List;
import java.util.TreeSet;
import java.util.regex.Matcher;
import java.util.regex.Pattern;

/** Those rules of ../shared/LANGUAGE.md that can be seen in the text of the class, and its face. */
public final class LanguageTest {
    private static final List<String> FACE = List.of("type", "clearText", "fault", "put", "copy", "drop",
            "waitingAt", "update", "rounds", "value", "cellOf", "letterAt", "readAt", "readerAt", "ranAt",
            "changedAt", "cause", "chainAt", "whatIf", "count", "undo");

    private static final List<Class<?>> CONSTANTS = List.of(int.class, long.class, boolean.class, char.class, String.class,
            int[].class, long[].class, char[].class, byte[].class);

    private LanguageTest() {
    }

    public static void main(String[] args) throws IOException {
        String source = Files.readString(Path.of("src/main/java/CutoffSheet.java"));
        String code = source.replaceAll("(?s)/\\*.*?\\*/", "").replaceAll("//[^\n]*", "");
        words(code);
        sizes(code);
        members();
        Check.finish("LanguageTest");
    }

    private static void none(String what, String code, String pattern) {
        Matcher found = Pattern.compile(pattern).matcher(code);
        Check.due("no " + what, found.find() ? 1 : 0, 0);
    }

    private static void words(String code) {
        none("exceptions", code, "\\b(throw|throws|try|catch|finally|assert|synchronized)\\b");
        none("imports and packages", code, "(?m)^(import|package)\\b");
        none("lambdas and method references", code, "->|::");
        none("casts of objects and generics", code, "\\((String|Object|State|Text|Texts)\\)|@");
        none("joining by +", code, "\"\\s*\\+|\\+\\s*\"");
        none("threads and clocks", code, "\\b(Thread|Random|Runtime|ProcessBuilder)\\b|System\\.(?!arraycopy)");
        none("exact functions", code, "Exact\\(");
        none("own equals and hashCode", code, "\\b(equals|hashCode|toString)\\b");
    }

    private static void sizes(String code) {
        String[] lines = code.split("\n");
        int start = -1;
        for (int line = 0; line < lines.length; line++) {
            if (lines[line].matches("(    |        )[^ ].*\\) \\{")) {
                start = line;
            } else if (lines[line].matches("(    |        )\\}") && start >= 0) {
                Check.due("lines of the method before line " + line, line - start < 60 ? 1 : 0, 1);
                start = -1;
            }
        }
    }

    private static void members() {
        TreeSet<String> open = new TreeSet<>();
        for (var method : CutoffSheet.class.getDeclaredMethods()) {
            boolean isPublic = Modifier.isPublic(method.getModifiers());
            boolean isPrivate = Modifier.isPrivate(method.getModifiers());
            Check.due("public or private: " + method, isPublic || isPrivate ? 1 : 0, 1);
            if (isPublic) {
                open.add(method.getName());
            }
            Check.due("the name of a public one: " + method,
                    isPublic == FACE.contains(method.getName()) ? 1 : 0, 1);
        }
        Check.due("the face", open.equals(new TreeSet<>(FACE)) ? 1 : 0, 1);
        List<Class<?>> classes = new ArrayList<>(Arrays.asList(CutoffSheet.class.getDeclaredClasses()));
        Check.due("at most twelve classes", classes.size() < 12 ? 1 : 0, 1);
        for (Class<?> inside : classes) {
            Check.due("static: " + inside, Modifier.isStatic(inside.getModifiers()));
            for (var method : inside.getDeclaredMethods()) {
                Check.due("name of " + method, FACE.contains(method.getName()) ? 1 : 0, 0);
            }
        }
        classes.add(CutoffSheet.class);
        classes.forEach(LanguageTest::parts);
    }

    /** Rules 3, 5 and 11: fields and parameters. */
    private static void parts(Class<?> part) {
        int fields = 0;
        for (Field field : part.getDeclaredFields()) {
            boolean isStatic = Modifier.isStatic(field.getModifiers());
            fields += isStatic ? 0 : 1;
            Check.due("a static field is final: " + field, !isStatic || Modifier.isFinal(field.getModifiers()));
            Check.due("its type: " + field, isStatic ? CONSTANTS.contains(field.getType()) : isAllowed(field.getType()));
        }
        Check.due("at most twenty fields: " + part, fields <= 20);
        for (var method : part.getDeclaredMethods()) {
            Check.due("at most seven parameters: " + method, method.getParameterCount() <= 7);
            Check.due("no lambda: " + method, !method.isSynthetic());
        }
        for (var constructor : part.getDeclaredConstructors()) {
            Check.due("at most seven parameters: " + constructor, constructor.getParameterCount() <= 7);
        }
    }

    private static boolean isAllowed(Class<?> type) {
        Class<?> element = type.isArray() ? type.getComponentType() : type;
        boolean isNumbers = element.isArray() && element.getComponentType().isPrimitive();
        return isNumbers || element.isPrimitive() || element == String.class
                || element.getNestHost() == CutoffSheet.class;
    }
}
