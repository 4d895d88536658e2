import java.io.IOException;
import java.lang.management.ManagementFactory;
import java.lang.reflect.Constructor;
import java.lang.reflect.Field;
import java.lang.reflect.Method;
import java.lang.reflect.Modifier;
import java.nio.file.Files;
import java.nio.file.Path;
import java.util.Arrays;
import java.util.Set;
import java.util.TreeSet;

/** The public face, and those rules of LANGUAGE.md that a test can look at. */
public final class LanguageTest {
    private static final Check CHECK = new Check();
    private static final Class<?> FACE = PermutationPuzzle.class;
    private static final String SOURCE = "src/main/java/PermutationPuzzle.java";

    private static final String[] METHODS = {
        "int reset(int) IllegalArgumentException",
        "int positions()",
        "int append(char) IllegalArgumentException IllegalStateException",
        "int define(int) IndexOutOfBoundsException IllegalArgumentException",
        "int store(int) IndexOutOfBoundsException IllegalArgumentException IllegalStateException"
            + " ArithmeticException",
        "int errorPosition() NoSuchElementException",
        "int target(int,int) IndexOutOfBoundsException NoSuchElementException",
        "int wordLength(int) IndexOutOfBoundsException",
        "int letter(int,int) IndexOutOfBoundsException",
        "int invert(int,int) IndexOutOfBoundsException",
        "int conjugate(int,int,int) IndexOutOfBoundsException ArithmeticException",
        "int commutator(int,int,int) IndexOutOfBoundsException ArithmeticException",
        "int order(int) IndexOutOfBoundsException",
        "boolean isOdd(int) IndexOutOfBoundsException",
        "int cycleLength(int,int) IndexOutOfBoundsException",
        "boolean isSame(int,int) IndexOutOfBoundsException",
        "int perform(int,int) IndexOutOfBoundsException IllegalArgumentException",
        "int exchange(int,int) IndexOutOfBoundsException",
        "int token(int) IndexOutOfBoundsException",
        "int depth() NoSuchElementException",
        "int solve(int) IndexOutOfBoundsException NoSuchElementException",
        "int countAt(int)",
        "int reachable()",
        "int greatestDepth()",
        "double averageDepth()",
        "int orbit(int) IndexOutOfBoundsException",
        "int findCommutator(int,int) IndexOutOfBoundsException NoSuchElementException",
        "int fillShares(int) IndexOutOfBoundsException",
        "int scale(int,int,int) IndexOutOfBoundsException IllegalArgumentException"
            + " ArithmeticException",
        "double remainder(int,int,int) IndexOutOfBoundsException ArithmeticException",
        "void snapshot()",
        "void restore() IllegalStateException"};

    private static final String[] RULED_OUT = {"->", "::", "finally", "synchronized", "assert ",
        "Exact(", "try {", "catch (", "System.", "hashCode", ".equals(", "@Override", "package ",
        "protected ", "static {", "import java.util.*", "lambda", "Random", "Thread"};

    public static void main(String[] args) throws IOException {
        face();
        insideTheClass();
        source();
        room();
        CHECK.finish();
    }

    private static void face() {
        CHECK.due("public final", Modifier.toString(FACE.getModifiers()), "public final");
        Constructor<?>[] constructors = FACE.getDeclaredConstructors();
        CHECK.due("constructors", constructors.length, 1);
        CHECK.due("constructor", Modifier.toString(constructors[0].getModifiers()), "public");
        Set<String> got = new TreeSet<>();
        for (Method method : FACE.getDeclaredMethods()) {
            if (!Modifier.isPrivate(method.getModifiers())) {
                CHECK.due(method.getName(), Modifier.toString(method.getModifiers()), "public");
                got.add(signature(method));
            }
        }
        CHECK.due("methods", got.toString(), new TreeSet<>(Arrays.asList(METHODS)).toString());
        for (Field field : FACE.getDeclaredFields()) {
            CHECK.due(field.getName(), Modifier.isPrivate(field.getModifiers()), true);
        }
    }

    private static String signature(Method method) {
        StringBuilder text = new StringBuilder();
        text.append(method.getReturnType().getSimpleName()).append(' ').append(method.getName());
        text.append('(');
        for (Class<?> type : method.getParameterTypes()) {
            text.append(text.charAt(text.length() - 1) == '(' ? "" : ",");
            text.append(type.getSimpleName());
        }
        text.append(')');
        for (Class<?> type : method.getExceptionTypes()) {
            text.append(' ').append(type.getSimpleName());
        }
        return text.toString();
    }

    private static void insideTheClass() {
        Set<String> names = new TreeSet<>();
        for (Method method : FACE.getMethods()) {
            if (method.getDeclaringClass() == FACE) {
                names.add(method.getName());
            }
        }
        for (Method method : FACE.getDeclaredMethods()) {
            CHECK.due(method.getName(), Modifier.isPublic(method.getModifiers()),
                    names.contains(method.getName()));
        }
        CHECK.due("classes", FACE.getDeclaredClasses().length <= 11, true);
        for (Class<?> inside : FACE.getDeclaredClasses()) {
            CHECK.due(inside.getName(), Modifier.isStatic(inside.getModifiers()), true);
            CHECK.due(inside.getName(), inside.getDeclaredFields().length <= 20, true);
            for (Method method : inside.getDeclaredMethods()) {
                CHECK.due(method.toString(), names.contains(method.getName()), false);
                CHECK.due(method.toString(), method.getParameterCount() <= 7, true);
            }
            for (Field field : inside.getDeclaredFields()) {
                int modifiers = field.getModifiers();
                CHECK.due(field.toString(),
                        !Modifier.isStatic(modifiers) || Modifier.isFinal(modifiers), true);
            }
        }
    }

    private static void source() throws IOException {
        String source = Files.readString(Path.of(SOURCE));
        for (String word : RULED_OUT) {
            CHECK.due("'" + word + "' in the source", source.contains(word), false);
        }
        for (int i = 0; i < source.length(); i++) {
            if (source.charAt(i) > 126) {
                CHECK.due("sign at " + i, source.charAt(i), 126);
            }
        }
    }

    /** Calls that answer make no objects: the dearest stay far below the room of a run. */
    private static void room() {
        com.sun.management.ThreadMXBean threads =
                (com.sun.management.ThreadMXBean) ManagementFactory.getThreadMXBean();
        PermutationPuzzle x = Lab.of(7, "(1234567)", "(12)", "(135)(246)", "(17)(26)");
        Lab.store(x, 0, "((a5)5)8");
        x.snapshot();
        dearCalls(x);
        long before = threads.getCurrentThreadAllocatedBytes();
        for (int i = 0; i < 27; i++) {
            dearCalls(x);
        }
        long made = threads.getCurrentThreadAllocatedBytes() - before;
        CHECK.due("432 dear calls make " + made + " bytes", made < 20000, true);

        before = threads.getCurrentThreadAllocatedBytes();
        PermutationPuzzle y = new PermutationPuzzle();
        made = threads.getCurrentThreadAllocatedBytes() - before;
        CHECK.due("a new object makes " + made + " bytes", made < 100000, true);
        CHECK.due("positions()", y.positions(), 3);
    }

    private static void dearCalls(PermutationPuzzle x) {
        x.define(4);
        x.depth();
        x.solve(1);
        x.findCommutator(1, 3);
        x.append('a');
        x.store(1);
        x.conjugate(2, 1, 1);
        x.commutator(2, 1, 1);
        x.invert(0, 0);
        x.perform(0, -100);
        x.order(0);
        x.averageDepth();
        x.fillShares(0);
        x.remainder(0, 3, 7);
        x.snapshot();
        x.restore();
    }
}
