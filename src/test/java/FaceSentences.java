import java.lang.reflect.Constructor;
import java.lang.reflect.Field;
import java.lang.reflect.Method;
import java.lang.reflect.Modifier;
import java.util.Arrays;

/** What the document says of the class itself: its public face, its constants, its 512 calls. */
final class FaceSentences {
    private static final String[] METHODS = {"type(int character)", "clearText()", "fault()", "put(int cell)",
        "copy(int from, int to)", "drop()", "waitingAt(int index)", "update()", "rounds(int rounds)",
        "value(int cell)", "cellOf(int cell, int what)", "letterAt(int cell, int index)",
        "readAt(int cell, int index)", "readerAt(int cell, int index)", "ranAt(int index)",
        "changedAt(int index)", "cause(int cell)", "chainAt(int cell, int index)",
        "whatIf(int cell, int number, int of)", "count(int what)", "undo()"};

    private FaceSentences() {
    }

    static void hold(Sentences all) {
        all.under("What it is");
        all.hold("An object is used for at most 512 calls after it has been made; what later calls answer is free.",
                FaceSentences::fiveHundredAndTwelve);
        all.under("The public face");
        all.hold("public final class CutoffSheet {", FaceSentences::theClass);
        all.hold("public CutoffSheet();", FaceSentences::theConstructor);
        for (String method : METHODS) {
            all.hold("public int " + method + ";", () -> theMethod(method));
        }
        constant(all, "INVALID_ARGUMENT", -2000000001, "An argument is out of its range.", new Sheet().x.value(72));
        constant(all, "NOT_POSSIBLE", -2000000002, "The call is not possible in the present state.", new Sheet().x.undo());
        constant(all, "LIMIT_REACHED", -2000000003, "A fixed limit has been reached.", typedTooMuch());
        constant(all, "NOT_FOUND", -2000000004, "There is no such value.", new Sheet().x.ranAt(0));
    }

    private static void constant(Sentences all, String name, int value, String meaning, int answer) {
        String both = name + " = " + value;
        all.under("The public face");
        all.hold("public static final int " + both + ";", () -> theConstant(name, value));
        all.under("Terms");
        String first = value == -2000000001 ? "The constants: " : "";
        all.hold(first + both + ": " + meaning, () -> Check.due("such a call", answer, value));
    }

    private static int typedTooMuch() {
        return new Sheet().text("1+1+1+1+1+1+1+1+1+1+1+1+1+1+1+").x.type('1');
    }

    /** The last one of 512 calls answers as the first one does. */
    private static void fiveHundredAndTwelve() {
        CutoffSheet x = new CutoffSheet();
        Check.due("call 1", x.type('a'), 1);
        Check.due("call 2", x.type('1'), 2);
        Check.due("call 3", x.put(0), 1);
        Check.due("call 4", x.update(), 1);
        for (int call = 5; call <= 510; call++) {
            int before = call == 5 ? 0 : (call - 1) % 41;
            Check.due("call " + call, x.rounds(call % 41), before);
        }
        Check.due("call 511", x.cellOf(0, 4), 507);
        Check.due("call 512", x.undo(), 3);
    }

    private static void theClass() {
        Class<?> face = CutoffSheet.class;
        Check.due("public and final alone", face.getModifiers(), Modifier.PUBLIC | Modifier.FINAL);
        Check.due("no package", face.getPackageName().isEmpty());
        Check.due("no class above it but Object", face.getSuperclass() == Object.class);
        Check.due("interfaces", face.getInterfaces().length, 0);
        Check.due("methods that are not private", Arrays.stream(face.getDeclaredMethods())
                .filter(method -> !Modifier.isPrivate(method.getModifiers())).count(), METHODS.length);
        Check.due("fields that are not private", Arrays.stream(face.getDeclaredFields())
                .filter(field -> !Modifier.isPrivate(field.getModifiers())).count(), 4);
        Check.due("public classes inside", face.getClasses().length, 0);
    }

    private static void theConstructor() {
        Constructor<?>[] constructors = CutoffSheet.class.getDeclaredConstructors();
        Check.due("constructors", constructors.length, 1);
        Check.due("its parameters", constructors[0].getParameterCount(), 0);
        Check.due("public alone", constructors[0].getModifiers(), Modifier.PUBLIC);
    }

    /** All parameters are of int, so that their number tells their types. */
    private static void theMethod(String words) {
        String name = words.substring(0, words.indexOf('('));
        Class<?>[] parameters = new Class<?>[words.split("int ").length - 1];
        Arrays.fill(parameters, int.class);
        boolean isThere = false;
        for (Method method : CutoffSheet.class.getDeclaredMethods()) {
            isThere |= method.getName().equals(name) && method.getModifiers() == Modifier.PUBLIC
                    && method.getReturnType() == int.class
                    && Arrays.equals(method.getParameterTypes(), parameters);
        }
        Check.due("public int " + words, isThere);
    }

    private static void theConstant(String name, int value) {
        boolean isThere = false;
        try {
            for (Field field : CutoffSheet.class.getFields()) {
                isThere |= field.getName().equals(name) && field.getType() == int.class
                        && field.getModifiers() == (Modifier.PUBLIC | Modifier.STATIC | Modifier.FINAL)
                        && field.getInt(null) == value;
            }
        } catch (IllegalAccessException hidden) {
            isThere = false;
        }
        Check.due("constant " + name, isThere);
    }
}
