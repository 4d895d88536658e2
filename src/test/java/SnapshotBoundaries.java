/** The boundaries that promises 32 and 33 name. */
final class SnapshotBoundaries extends Boundaries {
    SnapshotBoundaries(Sentences doc, Check check) {
        super(doc, check);
    }

    @Override
    void test() {
        doc.in("Promise 32");
        doc.says("Takes a snapshot of the moves, the words and the arrangement.", this::parts);
        doc.says("It replaces an earlier one.", this::replaces);
        doc.in("Promise 33");
        doc.says("Restores the moves, the words and the arrangement from the snapshot, which stays"
                + " available.", this::staysAvailable);
        doc.says("Throws `IllegalStateException` if there is no snapshot", this::noSnapshot);
    }

    /** Had a snapshot once. */
    private static PermutationPuzzle withoutSnapshot() {
        PermutationPuzzle x = Lab.idle();
        x.reset(5);
        Lab.define(x, 0, "(12)");
        Lab.store(x, 2, "a");
        x.exchange(2, 5);
        Lab.type(x, "a'2");
        return x;
    }

    private void parts() {
        PermutationPuzzle x = Lab.idle();
        String before = Lab.state(x);
        x.snapshot();
        check.due("nothing changes", Lab.state(x), before);
        Lab.define(x, 0, "(13)");
        Lab.define(x, 4, "");
        Lab.store(x, 0, "((a5)5)8");
        Lab.store(x, 2, "e");
        x.invert(3, 2);
        x.exchange(2, 5);
        x.restore();
        check.due("all is back", Lab.state(x), before);
        check.due("reachable", x.reachable(), 120);
        rest();
    }

    /** What a snapshot does not hold. */
    private void rest() {
        PermutationPuzzle x = Lab.idle();
        x.snapshot();
        Lab.malform(x, "aaaaa1");
        x.scale(0, 0, 0);
        x.scale(1, 23, -1);
        Lab.type(x, "ab'");
        String situation = Lab.situation(x);
        x.restore();
        check.due("the situation is the same", Lab.situation(x), situation);
        check.due("the error position stays", x.errorPosition(), 5);
        check.due("the floats stay", Lab.element(x, 0, 0), 0.0);
        check.due("the doubles stay", Lab.element(x, 1, 23), -0.0);
        check.due("the buffer stays", x.store(2), 2);
    }

    private void replaces() {
        PermutationPuzzle x = Lab.idle();
        String now = Lab.situation(x);
        x.snapshot();
        x.restore();
        check.due("the later one is restored", Lab.situation(x), now);
        x.exchange(1, 2);
        Lab.store(x, 0, "");
        Lab.define(x, 0, "");
        String later = Lab.situation(x);
        x.snapshot();
        x.exchange(3, 4);
        Lab.store(x, 0, "a");
        Lab.define(x, 0, "(12)");
        x.restore();
        check.due("the last one is restored", Lab.situation(x), later);
    }

    private void staysAvailable() {
        PermutationPuzzle x = Lab.idle();
        x.snapshot();
        String saved = Lab.situation(x);
        for (int round = 1; round <= 3; round++) {
            Lab.define(x, 0, "(24)");
            Lab.define(x, 3, "(35)");
            Lab.store(x, 0, "d9");
            x.invert(3, 2);
            x.exchange(1, 5);
            x.restore();
            check.due("restored the " + round + ". time", Lab.situation(x), saved);
        }
        x.restore();
        check.due("twice in a row", Lab.situation(x), saved);
    }

    private void noSnapshot() {
        PermutationPuzzle x = new PermutationPuzzle();
        check.badState("restore of a new one", x::restore);
        check.badState("and again", x::restore);
        x.snapshot();
        x.restore();
        check.due("with a snapshot of nothing", Lab.tokens(x), "123");
        for (int n = 2; n <= 7; n++) {
            x.reset(n);
            check.badState("restore after reset", x::restore);
            x.snapshot();
            x.restore();
        }
        refusals.leaves(Lab.everything(withoutSnapshot()), IllegalStateException.class,
                withoutSnapshot(), "restore", PermutationPuzzle::restore);
        PermutationPuzzle y = Lab.busy();
        check.badArgument("a refused reset", () -> y.reset(8));
        y.restore();
        check.due("leaves the snapshot", Lab.letters(y, 0), "aB");
    }
}
