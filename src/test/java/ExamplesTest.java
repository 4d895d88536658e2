/** The two examples of the document, each call with its result. */
public final class ExamplesTest {
    private static final Check CHECK = new Check();

    public static void main(String[] args) {
        firstExample();
        secondExample();
        CHECK.finish();
    }

    private static void firstExample() {
        PermutationPuzzle x = new PermutationPuzzle();
        CHECK.due("append('(')", x.append('('), 1);
        CHECK.due("append('1')", x.append('1'), 2);
        CHECK.due("append('2')", x.append('2'), 3);
        CHECK.due("append('3')", x.append('3'), 4);
        CHECK.due("append(')')", x.append(')'), 5);
        CHECK.due("define(0)", x.define(0), 3);
        CHECK.due("target(0, 3)", x.target(0, 3), 1);
        CHECK.due("append('a')", x.append('a'), 1);
        CHECK.due("append('2')", x.append('2'), 2);
        CHECK.due("store(0)", x.store(0), 2);
        CHECK.due("perform(0, 1)", x.perform(0, 1), 3);
        CHECK.due("token(1)", x.token(1), 2);
        CHECK.due("depth()", x.depth(), 1);
        CHECK.due("solve(1)", x.solve(1), 1);
        CHECK.due("letter(1, 0)", x.letter(1, 0), 0);
        CHECK.due("reachable()", x.reachable(), 3);
    }

    private static void secondExample() {
        PermutationPuzzle x = new PermutationPuzzle();
        CHECK.due("append('(')", x.append('('), 1);
        CHECK.due("append('1')", x.append('1'), 2);
        CHECK.due("append('1')", x.append('1'), 3);
        CHECK.badArgument("define(0)", () -> x.define(0));
        CHECK.due("errorPosition()", x.errorPosition(), 2);
        CHECK.due("append('(')", x.append('('), 1);
        CHECK.due("append('1')", x.append('1'), 2);
        CHECK.due("append('2')", x.append('2'), 3);
        CHECK.due("append(')')", x.append(')'), 4);
        CHECK.due("define(1)", x.define(1), 2);
        CHECK.due("greatestDepth()", x.greatestDepth(), 1);
        CHECK.due("averageDepth()", x.averageDepth(), 0.5);
        CHECK.due("exchange(2, 3)", x.exchange(2, 3), 3);
        CHECK.noElement("depth()", () -> x.depth());
        CHECK.due("orbit(1)", x.orbit(1), 3);
    }
}
