import java.io.IOException;
import java.lang.management.ManagementFactory;
import java.lang.reflect.Field;
import java.lang.reflect.Method;
import java.lang.reflect.Modifier;
import java.nio.file.Files;
import java.nio.file.Path;
import java.util.List;
import java.util.Set;
import java.util.TreeSet;
import java.util.regex.Matcher;
import java.util.regex.Pattern;

/** Those rules of LANGUAGE.md that a test can look at. */
public final class LanguageTest {
    private static final Check CHECK = new Check();
    private static final Class<?> FACE = PermutationPuzzle.class;
    private static final String SOURCE = "src/main/java/PermutationPuzzle.java";
    /** A line that begins a method of the face's class or of a class inside it. */
    private static final Pattern METHOD = Pattern.compile(
            "^( {4}| {8})(?!return |if |for |while |switch |else |do )"
            + "(?:private |public |static )*(?:\\w+(?:\\[\\])? )?\\w+\\((?![^;]*;)");

    private static final Set<Class<?>> CONSTANTS =
            Set.of(int.class, long.class, boolean.class, char.class, String.class);

    private static final String[] RULED_OUT = {"->", "::", "finally", "synchronized", "assert ",
        "Exact(", "try {", "catch (", "System.", "hashCode", ".equals(", "@Override", "package ",
        "protected ", "static {", "lambda", "Random", "Thread"};

    public static void main(String[] args) throws IOException {
        face();
        insideTheClass();
        source();
        room();
        CHECK.finish();
    }

    /** Rule 1; the methods of the face are compared with the document's by DocumentTest. */
    private static void face() {
        for (Field field : FACE.getDeclaredFields()) {
            CHECK.due(field.getName(), Modifier.isPrivate(field.getModifiers()), true);
        }
        CHECK.due("fields beside constants", fieldsOf(FACE) <= 20, true);
        staticFields(FACE);
    }

    private static int fieldsOf(Class<?> type) {
        int count = 0;
        for (Field field : type.getDeclaredFields()) {
            count += Modifier.isStatic(field.getModifiers()) ? 0 : 1;
        }
        return count;
    }

    /** Rule 5. */
    private static void staticFields(Class<?> type) {
        for (Field field : type.getDeclaredFields()) {
            if (Modifier.isStatic(field.getModifiers())) {
                CHECK.due(field + " is final", Modifier.isFinal(field.getModifiers()), true);
                CHECK.due("type of " + field, CONSTANTS.contains(field.getType()), true);
            }
        }
    }

    private static void insideTheClass() {
        Set<String> names = new TreeSet<>();
        for (Method method : FACE.getMethods()) {
            if (method.getDeclaringClass() == FACE) {
                names.add(method.getName());
            }
        }
        for (Method method : FACE.getDeclaredMethods()) {
            CHECK.due(method.getName(), Modifier.isPublic(method.getModifiers()),
                    names.contains(method.getName()));
        }
        CHECK.due("classes", FACE.getDeclaredClasses().length <= 11, true);
        for (Class<?> inside : FACE.getDeclaredClasses()) {
            CHECK.due(inside.getName(), Modifier.isStatic(inside.getModifiers()), true);
            CHECK.due(inside.getName(), fieldsOf(inside) <= 20, true);
            staticFields(inside);
            for (Method method : inside.getDeclaredMethods()) {
                CHECK.due(method.toString(), names.contains(method.getName()), false);
                CHECK.due(method.toString(), method.getParameterCount() <= 7, true);
            }
        }
    }

    private static void source() throws IOException {
        String source = Files.readString(Path.of(SOURCE));
        imports(source);
        methodLengths(source.lines().toList());
        for (String word : RULED_OUT) {
            CHECK.due("'" + word + "' in the source", source.contains(word), false);
        }
        for (int i = 0; i < source.length(); i++) {
            if (source.charAt(i) > 126) {
                CHECK.due("sign at " + i, source.charAt(i), 126);
            }
        }
    }

    /** Rule 4: no library but the exception that the document imports. */
    private static void imports(String source) {
        String rest = source.replace("import java.util.NoSuchElementException;\n", "");
        CHECK.due("an import more", rest.contains("import "), false);
        CHECK.due("a class by its full name", rest.contains("java."), false);
    }

    /** Rule 11: a method ends where a brace closes at the indentation at which it began. */
    private static void methodLengths(List<String> lines) {
        int methods = 0;
        for (int start = 0; start < lines.size(); start++) {
            Matcher matcher = METHOD.matcher(lines.get(start));
            if (matcher.find()) {
                int end = start;
                while (!lines.get(end).equals(matcher.group(1) + "}")) {
                    end++;
                }
                methods++;
                CHECK.due("lines of" + lines.get(start), end - start < 60, true);
            }
        }
        CHECK.due("methods found", methods > 100, true);
    }

    /** Calls that answer make no objects: the dearest stay far below the room of a run. */
    private static void room() {
        com.sun.management.ThreadMXBean threads =
                (com.sun.management.ThreadMXBean) ManagementFactory.getThreadMXBean();
        PermutationPuzzle x = Lab.of(7, "(1234567)", "(12)", "(135)(246)", "(17)(26)");
        Lab.store(x, 0, "((a5)5)8");
        x.snapshot();
        dearCalls(x);
        long before = threads.getCurrentThreadAllocatedBytes();
        for (int i = 0; i < 27; i++) {
            dearCalls(x);
        }
        long made = threads.getCurrentThreadAllocatedBytes() - before;
        CHECK.due("432 dear calls make " + made + " bytes", made < 20000, true);

        before = threads.getCurrentThreadAllocatedBytes();
        PermutationPuzzle y = new PermutationPuzzle();
        made = threads.getCurrentThreadAllocatedBytes() - before;
        CHECK.due("a new object makes " + made + " bytes", made < 100000, true);
        CHECK.due("positions()", y.positions(), 3);
    }

    private static void dearCalls(PermutationPuzzle x) {
        x.define(4);
        x.depth();
        x.solve(1);
        x.findCommutator(1, 3);
        x.append('a');
        x.store(1);
        x.conjugate(2, 1, 1);
        x.commutator(2, 1, 1);
        x.invert(0, 0);
        x.perform(0, -100);
        x.order(0);
        x.averageDepth();
        x.fillShares(0);
        x.remainder(0, 3, 7);
        x.snapshot();
        x.restore();
    }
}
