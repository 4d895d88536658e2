/** Promises 32 and 33: snapshots. */
public final class SnapshotPromisesTest {
    private static final Check CHECK = new Check();

    public static void main(String[] args) {
        promise32();
        promise32LeavesTheRest();
        promise33();
        promise33Moves();
        CHECK.finish();
    }

    private static PermutationPuzzle prepared() {
        PermutationPuzzle x = Lab.of(4, "(1234)", "(12)");
        Lab.store(x, 0, "ab'");
        Lab.store(x, 3, "<a,b>");
        x.perform(0, 1);
        return x;
    }

    private static void promise32() {
        PermutationPuzzle x = prepared();
        String before = Lab.state(x);
        x.snapshot();
        CHECK.due("a snapshot changes nothing", Lab.state(x), before);
        Lab.define(x, 0, "(13)");
        Lab.store(x, 0, "b2");
        x.exchange(1, 3);
        String later = Lab.state(x);
        x.snapshot();
        Lab.store(x, 0, "");
        x.exchange(2, 3);
        x.restore();
        CHECK.due("a later snapshot replaces the first", Lab.state(x), later);
    }

    private static void promise32LeavesTheRest() {
        PermutationPuzzle x = prepared();
        x.snapshot();
        x.fillShares(0);
        Lab.type(x, "(1");
        CHECK.badArgument("define", () -> x.define(4));
        Lab.type(x, "ab");
        x.restore();
        CHECK.due("the rows stay", Lab.element(x, 0, 0), (double) (1f / 24f));
        CHECK.due("the error position stays", Lab.error(x), "2");
        CHECK.due("the buffer stays", x.store(2), 2);
        CHECK.due("its word", Lab.letters(x, 2), "ab");
    }

    private static void promise33() {
        PermutationPuzzle x = new PermutationPuzzle();
        CHECK.badState("restore()", x::restore);
        PermutationPuzzle y = prepared();
        String before = Lab.state(y);
        CHECK.badState("restore()", y::restore);
        CHECK.due("a restore that throws", Lab.state(y), before);
        y.snapshot();
        for (int round = 0; round < 2; round++) {
            Lab.define(y, 0, "(24)");
            Lab.define(y, 2, "(34)");
            Lab.store(y, 0, "c9");
            Lab.store(y, 1, "abc");
            y.invert(3, 3);
            y.perform(1, 1);
            y.restore();
            CHECK.due("the snapshot stays available", Lab.state(y), before);
        }
        PermutationPuzzle z = prepared();
        z.snapshot();
        z.restore();
        z.restore();
        CHECK.due("restored twice", Lab.state(z), before);
        z.reset(4);
        CHECK.badState("restore after reset", z::restore);
        CHECK.badArgument("reset(9)", () -> z.reset(9));
        z.snapshot();
        z.exchange(1, 2);
        CHECK.badArgument("reset(9)", () -> z.reset(9));
        z.restore();
        CHECK.due("a reset that throws keeps the snapshot", Lab.tokens(z), "1234");
    }

    private static void promise33Moves() {
        PermutationPuzzle x = Lab.of(3, "(123)");
        x.snapshot();
        Lab.define(x, 1, "(12)");
        CHECK.due("reachable()", x.reachable(), 6);
        x.restore();
        CHECK.due("b is undefined again", Lab.targets(x, 1), "undefined");
        CHECK.due("the table follows", x.reachable(), 3);
        Lab.type(x, "b");
        CHECK.badState("so is its name", () -> x.store(0));
        x.exchange(1, 2);
        CHECK.noElement("depth()", x::depth);
        x.restore();
        CHECK.due("depth()", x.depth(), 0);
    }
}
