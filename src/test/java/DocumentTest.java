import java.io.IOException;
import java.lang.reflect.Constructor;
import java.lang.reflect.InvocationTargetException;
import java.lang.reflect.Method;
import java.lang.reflect.Modifier;
import java.nio.file.Files;
import java.nio.file.Path;
import java.util.ArrayList;
import java.util.List;
import java.util.TreeSet;
import java.util.regex.Matcher;
import java.util.regex.Pattern;

/** The public face and the examples, read from the document as they stand there. */
public final class DocumentTest {
    private static final Check CHECK = new Check();
    private static final Path DOCUMENT = Path.of("../shared/DOC.md");
    private static final Class<?> FACE = PermutationPuzzle.class;
    private static final Pattern MEMBER = Pattern.compile("(?m)^ +public ([^;{]+);$");
    private static final Pattern PROMISE = Pattern.compile("(?m)^## Promise (\\d+): .*\n\n`(.*)`$");
    private static final Pattern EXAMPLE = Pattern.compile("(?m)^- (append.*(\n  .*)*)$");
    private static final Pattern CALL = Pattern.compile(
            "(\\w+)\\((.*?)\\): (throws \\w+|[-.\\w]+)(?:; ?|$)");

    public static void main(String[] args) throws IOException, ReflectiveOperationException {
        String document = Files.readString(DOCUMENT);
        face(document);
        promises(document);
        examples(document);
        CHECK.finish();
    }

    private static void face(String document) {
        CHECK.due("the class", document.contains(Modifier.toString(FACE.getModifiers())
                + " class " + FACE.getSimpleName() + " {"), true);
        List<String> visible = new ArrayList<>();
        for (Constructor<?> constructor : FACE.getDeclaredConstructors()) {
            visible.add(Modifier.toString(constructor.getModifiers()) + ' '
                    + signature("", FACE.getSimpleName(), constructor.getParameterTypes(),
                            constructor.getExceptionTypes()));
        }
        for (Method method : FACE.getDeclaredMethods()) {
            if (!Modifier.isPrivate(method.getModifiers())) {
                visible.add(Modifier.toString(method.getModifiers()) + ' '
                        + signature(method.getReturnType().getSimpleName() + ' ',
                                method.getName(), method.getParameterTypes(),
                                method.getExceptionTypes()));
            }
        }
        List<String> due = new ArrayList<>();
        for (String member : members(document)) {
            due.add("public " + withoutNames(member));
        }
        CHECK.due("members of the face", due.size(), 33);
        CHECK.due("members in all", visible.size(), due.size());
        CHECK.due("members", new TreeSet<>(visible).toString(), new TreeSet<>(due).toString());
    }

    /** Each promise repeats the signature that the face has for it. */
    private static void promises(String document) {
        List<String> members = members(document);
        Matcher matcher = PROMISE.matcher(document);
        int promise = 0;
        while (matcher.find() && promise < members.size()) {
            promise++;
            CHECK.due("promise", matcher.group(1), Integer.toString(promise));
            CHECK.due("promise " + promise, matcher.group(2), members.get(promise - 1));
        }
        CHECK.due("promises", promise, members.size());
    }

    private static List<String> members(String document) {
        List<String> members = new ArrayList<>();
        Matcher matcher = MEMBER.matcher(document);
        while (matcher.find()) {
            members.add(matcher.group(1));
        }
        return members;
    }

    /** A class file does not tell the names of parameters. */
    private static String withoutNames(String member) {
        return member.replaceAll("\\b(int|char) \\w+(?=[,)])", "$1");
    }

    private static String signature(String type, String name, Class<?>[] parameters,
            Class<?>[] thrown) {
        return type + name + '(' + names(parameters) + ')'
                + (thrown.length > 0 ? " throws " : "") + names(thrown);
    }

    private static String names(Class<?>[] types) {
        List<String> names = new ArrayList<>();
        for (Class<?> type : types) {
            names.add(type.getSimpleName());
        }
        return String.join(", ", names);
    }

    private static void examples(String document) throws ReflectiveOperationException {
        List<Integer> lengths = new ArrayList<>();
        Matcher matcher = EXAMPLE.matcher(document);
        while (matcher.find()) {
            lengths.add(play(matcher.group(1).replaceAll("\\s+", " ")));
        }
        CHECK.due("calls of the examples", lengths.toString(), "[16, 15]");
    }

    /** Answers the number of calls in an example, which must be nothing but calls. */
    private static int play(String example) throws ReflectiveOperationException {
        PermutationPuzzle puzzle = new PermutationPuzzle();
        Matcher matcher = CALL.matcher(example);
        int calls = 0;
        int end = 0;
        while (matcher.find() && matcher.start() == end) {
            end = matcher.end();
            calls++;
            String got = answer(puzzle, matcher.group(1), matcher.group(2));
            CHECK.due(matcher.group(1) + '(' + matcher.group(2) + ')', got, matcher.group(3));
        }
        CHECK.due("the rest of the example", example.substring(end), "");
        return calls;
    }

    private static String answer(PermutationPuzzle puzzle, String name, String arguments)
            throws ReflectiveOperationException {
        for (Method method : FACE.getMethods()) {
            if (method.getName().equals(name)) {
                try {
                    return String.valueOf(method.invoke(puzzle, values(arguments)));
                } catch (InvocationTargetException e) {
                    return "throws " + e.getCause().getClass().getSimpleName();
                }
            }
        }
        return "no such method";
    }

    private static Object[] values(String arguments) {
        List<Object> values = new ArrayList<>();
        if (arguments.startsWith("'")) {
            values.add(arguments.charAt(1));
        } else if (!arguments.isEmpty()) {
            for (String argument : arguments.split(", ")) {
                values.add(Integer.valueOf(argument));
            }
        }
        return values.toArray();
    }
}
