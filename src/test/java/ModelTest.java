import java.lang.reflect.InvocationTargetException;
import java.lang.reflect.Method;
import java.util.ArrayList;
import java.util.List;
import java.util.Random;

/** Runs of calls, the same in every run of this test, on the class and on the model of it. */
public final class ModelTest {
    private static final int RUNS = 150;
    /** As many calls as the document promises anything for. */
    private static final int CALLS = 512;

    private static final String[] NAMES = {
        "reset", "positions", "append", "define", "store", "errorPosition", "target", "wordLength",
        "letter", "invert", "conjugate", "commutator", "order", "isOdd", "cycleLength", "isSame",
        "perform", "exchange", "token", "depth", "solve", "countAt", "reachable", "greatestDepth",
        "averageDepth", "orbit", "findCommutator", "fillShares", "scale", "remainder", "snapshot",
        "restore"};

    /** Texts with a gap for a character. */
    private static final String[] CYCLES_AROUND = {"_", "_(12)", "(_12)", "(1_2)", "(1_)", "(12_",
        "(12)_", "(12)(_", "(12)(3_)"};
    private static final String[] WORDS_AROUND = {"_", "a_", "_a", "a'_", "a2_", "a'2_", "(_", "(_)",
        "(a_)", "(a)_", "(a)'_", "<_", "<a_", "<a_e>", "<a,_", "<a,e_", "<a,e>_", "((((((_",
        "((((((a_", "<<<<<(_)))"};

    private final Random random;
    private final PermutationPuzzle puzzle = new PermutationPuzzle();
    private final Model model = new Model();
    private final List<String> history = new ArrayList<>();
    private int calls = 0;
    private boolean wrong = false;

    private ModelTest(long seed) {
        random = new Random(seed);
    }

    public static void main(String[] args) throws ReflectiveOperationException {
        int runs = args.length > 0 ? Integer.parseInt(args[0]) : RUNS;
        long calls = 0;
        for (char character = 32; character <= 126; character++) {
            ModelTest run = new ModelTest(character);
            run.readEverywhere(character);
            calls += run.finished("character " + character);
        }
        for (int seed = 0; seed < runs; seed++) {
            ModelTest run = new ModelTest(seed);
            run.play();
            calls += run.finished("run " + seed);
        }
        System.out.println(runs + " runs with " + calls + " calls as the model's");
    }

    /** Answers the number of calls, all of which must have been as the model's. */
    private int finished(String name) {
        if (wrong) {
            System.out.println(name + ": " + String.join("; ", history));
            System.exit(1);
        }
        return calls;
    }

    /** Reads texts that have the character in each place in which the grammar tells kinds apart. */
    private void readEverywhere(char character) throws ReflectiveOperationException {
        call("define", 0);
        call("define", 4);
        for (String text : CYCLES_AROUND) {
            type(text.replace('_', character));
            call("define", 1);
            call("errorPosition");
        }
        for (String text : WORDS_AROUND) {
            type(text.replace('_', character));
            call("store", 0);
            call("errorPosition");
        }
    }

    private void play() throws ReflectiveOperationException {
        if (random.nextInt(3) > 0) {
            call("reset", 2 + random.nextInt(6));
        }
        while (calls < CALLS && !wrong) {
            step();
        }
    }

    private void step() throws ReflectiveOperationException {
        int kind = random.nextInt(20);
        if (kind < 2) {
            type(cycles());
            call("define", number(5));
        } else if (kind < 5) {
            type(word(0));
            call("store", number(4));
        } else if (kind == 5 && random.nextInt(3) == 0) {
            type(noise());
        } else if (kind == 6 && random.nextInt(6) > 0) {
            call("errorPosition");
        } else {
            callAny(NAMES[random.nextInt(NAMES.length)]);
        }
    }

    private void callAny(String name) throws ReflectiveOperationException {
        // A reset undoes what makes later calls worth looking at.
        if (name.equals("reset") && random.nextInt(4) > 0) {
            return;
        }
        Method method = methodOf(name);
        Object[] arguments = new Object[method.getParameterCount()];
        for (int i = 0; i < arguments.length; i++) {
            arguments[i] = argument(name, i);
        }
        call(name, arguments);
    }

    private Object argument(String name, int index) {
        switch (name) {
            case "append":
                return random.nextInt(3) > 0 ? noise().charAt(0) : (char) random.nextInt(300);
            case "reset":
                return random.nextInt(10);
            case "define":
                return number(5);
            case "target":
                return index == 0 ? number(5) : number(8);
            case "letter":
                return index == 0 ? number(4) : number(random.nextBoolean() ? 10 : 200);
            case "cycleLength":
                return index == 0 ? number(4) : number(8);
            case "perform":
                return index == 0 ? number(4) : 100 - random.nextInt(201) + number(2);
            case "exchange", "token", "orbit":
                return number(8);
            case "countAt":
                return number(26);
            case "findCommutator":
                return index == 0 ? number(4) : number(8);
            case "fillShares":
                return number(2);
            case "scale":
                return index == 0 ? number(2) : index == 1 ? number(random.nextBoolean() ? 5 : 24)
                        : factor();
            case "remainder":
                return index == 0 ? number(2) : index == 1 ? number(random.nextBoolean() ? 5 : 24)
                        : divisor();
            default:
                return number(4);
        }
    }

    /** Mostly from 0 to end - 1. */
    private int number(int end) {
        int kind = random.nextInt(60);
        if (kind == 0) {
            return -1;
        }
        if (kind == 1) {
            return end;
        }
        if (kind == 2) {
            return random.nextInt();
        }
        return random.nextInt(end);
    }

    private int factor() {
        int kind = random.nextInt(8);
        return kind == 0 ? random.nextInt(2005) - 1002 : kind < 4 ? random.nextInt(21) - 10
                : random.nextInt(2001) - 1000;
    }

    private int divisor() {
        int kind = random.nextInt(8);
        return kind == 0 ? random.nextInt() : kind == 1 ? Integer.MIN_VALUE
                : random.nextInt(41) - 20;
    }

    private String cycles() {
        List<Integer> left = new ArrayList<>();
        for (int i = 1; i <= model.positions(); i++) {
            left.add(i);
        }
        StringBuilder text = new StringBuilder();
        int most = random.nextInt(4);
        for (int i = 0; i < most && left.size() >= 2; i++) {
            text.append('(');
            int length = 2 + random.nextInt(left.size() - 1);
            for (int j = 0; j < length; j++) {
                text.append(left.remove(random.nextInt(left.size())));
            }
            text.append(')');
        }
        return mutated(text.toString());
    }

    private String word(int level) {
        StringBuilder text = new StringBuilder();
        int items = random.nextInt(4);
        for (int i = 0; i < items; i++) {
            int kind = random.nextInt(level < 5 ? 4 : 2);
            if (kind < 2) {
                text.append((char) ('a' + random.nextInt(random.nextInt(4) > 0 ? 2 : 5)));
            } else if (kind == 2) {
                text.append('(').append(word(level + 1)).append(')');
            } else {
                text.append('<').append(word(level + 1)).append(',').append(word(level + 1))
                        .append('>');
            }
            if (random.nextInt(3) == 0) {
                text.append('\'');
            }
            if (random.nextInt(3) == 0) {
                text.append((char) ('2' + random.nextInt(random.nextBoolean() ? 2 : 8)));
            }
        }
        return level == 0 ? mutated(text.toString()) : text.toString();
    }

    private String mutated(String text) {
        if (random.nextInt(3) > 0) {
            return text;
        }
        int at = random.nextInt(text.length() + 1);
        switch (random.nextInt(3)) {
            case 0:
                return text.substring(0, at);
            case 1:
                return text.substring(0, at) + noise().charAt(0) + text.substring(at);
            default:
                return at < text.length() ? text.substring(0, at) + text.substring(at + 1)
                        : text + "<(<(<(<";
        }
    }

    private String noise() {
        String likely = "(((<<<)>,,''0123456789aabbcde";
        StringBuilder text = new StringBuilder();
        int length = 1 + random.nextInt(random.nextInt(10) == 0 ? 42 : 8);
        for (int i = 0; i < length; i++) {
            text.append(random.nextInt(8) == 0 ? (char) (32 + random.nextInt(95))
                    : likely.charAt(random.nextInt(likely.length())));
        }
        return text.toString();
    }

    private void type(String text) throws ReflectiveOperationException {
        for (int i = 0; i < text.length(); i++) {
            call("append", text.charAt(i));
        }
    }

    private void call(String name, Object... arguments) throws ReflectiveOperationException {
        if (calls >= CALLS || wrong) {
            return;
        }
        calls++;
        Method method = methodOf(name);
        String got = answer(method, puzzle, arguments);
        Method twin = Model.class.getMethod(name, method.getParameterTypes());
        String want = answer(twin, model, arguments);
        StringBuilder line = new StringBuilder(name);
        for (Object argument : arguments) {
            line.append(' ').append(argument);
        }
        history.add(line.append(": ").append(got).toString());
        if (!got.equals(want)) {
            wrong = true;
            history.add("due is " + want);
        }
    }

    private static Method methodOf(String name) {
        for (Method method : PermutationPuzzle.class.getMethods()) {
            if (method.getName().equals(name)) {
                return method;
            }
        }
        throw new AssertionError(name);
    }

    private static String answer(Method method, Object object, Object[] arguments)
            throws ReflectiveOperationException {
        method.setAccessible(true);
        try {
            return String.valueOf(method.invoke(object, arguments));
        } catch (InvocationTargetException e) {
            return "throws." + e.getCause().getClass().getSimpleName();
        }
    }
}
