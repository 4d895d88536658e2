import java.util.NoSuchElementException;

/** The boundaries that promises 23 to 28 name. */
final class PuzzleBoundaries extends Boundaries {
    PuzzleBoundaries(Sentences doc, Check check) {
        super(doc, check);
    }

    @Override
    void test() {
        doc.in("Promise 23");
        doc.says("Returns the number of arrangements, 0 for a negative depth.", this::counts);
        doc.in("Promise 24");
        doc.says("Returns the number of arrangements, at least 1.", this::reachable);
        doc.in("Promise 25");
        doc.says("Returns the greatest depth of a reachable arrangement.", this::greatestDepth);
        doc.in("Promise 26");
        doc.says("Returns the average of the depths of all reachable arrangements: the sum of the"
                + " depths, converted to double, divided by their number.", this::average);
        doc.in("Promise 27");
        doc.says("Returns the orbit of a position: all positions to which words can take the token"
                + " on it.", this::orbits);
        doc.says("Returns the orbit as a bit mask, in which bit p - 1 stands for position p.",
                this::orbitBits);
        doc.says("Throws `IndexOutOfBoundsException` if there is no such position",
                this::orbitIndexes);
        findCommutator();
    }

    private void findCommutator() {
        doc.in("Promise 28");
        doc.says("The words u and v have 1 or 2 letters each.", this::lengthsOfWords);
        doc.says("Pairs of words are tried by the sum of their lengths, then by the length of u,"
                + " then by u, then by v; words of the same length are compared at the first letter"
                + " at which they differ.", this::orderOfPairs);
        doc.says("The first such commutator is stored, as the 4 words of which it consists, one"
                + " after the other.", this::storedCommutator);
        doc.says("`moved`: the number of positions whose tokens the commutator moves", this::moved);
        doc.says("Returns the length of the commutator.", this::lengthOfCommutator);
        doc.says("Throws `IndexOutOfBoundsException` if there is no such slot", this::indexes);
        doc.says("Throws `NoSuchElementException` if there is no such commutator",
                this::noCommutator);
    }

    private void counts() {
        PermutationPuzzle x = Lab.deep();
        check.due("countAt(0)", x.countAt(0), 1);
        check.due("countAt(1)", x.countAt(1), 4);
        check.due("countAt(23)", x.countAt(23), 8);
        check.due("countAt(24)", x.countAt(24), 2);
        int[] none = {-1, -2, 25, 26, 5039, 5040, 5041, Integer.MIN_VALUE, Integer.MAX_VALUE};
        for (int depth : none) {
            check.due("countAt(" + depth + ")", x.countAt(depth), 0);
            check.due("countAt(" + depth + ") of a new one",
                    new PermutationPuzzle().countAt(depth), 0);
        }
        int sum = 0;
        for (int depth = 0; depth <= 24; depth++) {
            sum += x.countAt(depth);
        }
        check.due("all counts", sum, 5040);
        check.due("countAt(0) without moves", new PermutationPuzzle().countAt(0), 1);
        check.due("countAt(1) without moves", new PermutationPuzzle().countAt(1), 0);
    }

    private void reachable() {
        for (int n = 2; n <= 7; n++) {
            check.due("without moves", Lab.of(n).reachable(), 1);
            check.due("with one that moves nothing", Lab.of(n, "").reachable(), 1);
            check.due("with one exchange", Lab.of(n, "(12)").reachable(), 2);
        }
        check.due("all of 2", Lab.of(2, "(12)").reachable(), 2);
        check.due("all of 7", Lab.of(7, "(1234567)", "(12)").reachable(), 5040);
        check.due("half of 7", Lab.of(7, "(1234567)", "(123)").reachable(), 2520);
        PermutationPuzzle x = Lab.of(7);
        x.exchange(1, 2);
        check.due("even if the present one is not", x.reachable(), 1);
    }

    private void greatestDepth() {
        check.due("without moves", new PermutationPuzzle().greatestDepth(), 0);
        check.due("with one that moves nothing", Lab.of(7, "").greatestDepth(), 0);
        check.due("with one exchange", Lab.of(7, "(17)").greatestDepth(), 1);
        check.due("more than a row holds", Lab.deep().greatestDepth(), 24);
        check.due("deeper", Lab.of(7, "(42)(16)(75)", "(712)(534)").greatestDepth(), 28);
    }

    private void average() {
        check.due("of one", new PermutationPuzzle().averageDepth(), 0.0);
        check.due("of two", Lab.of(2, "(12)").averageDepth(), 0.5);
        check.due("of three", Lab.of(3, "(123)").averageDepth(), 2.0 / 3.0);
        PermutationPuzzle x = Lab.deep();
        int sum = 0;
        for (int depth = 1; depth <= 24; depth++) {
            sum += depth * x.countAt(depth);
        }
        check.due("of 5040", x.averageDepth(), sum / 5040.0);
        x.reset(7);
        check.due("of one again", x.averageDepth(), 0.0);
    }

    private void orbits() {
        PermutationPuzzle x = Lab.of(7);
        for (int position = 1; position <= 7; position++) {
            check.due("alone", x.orbit(position), 1 << (position - 1));
        }
        Lab.define(x, 0, "(12)(34)(56)");
        check.due("pairs", x.orbit(1), 3);
        check.due("pairs", x.orbit(6), 48);
        check.due("one left over", x.orbit(7), 64);
        Lab.define(x, 1, "(23)(45)(67)");
        for (int position = 1; position <= 7; position++) {
            check.due("a chain from end to end", x.orbit(position), 127);
        }
        PermutationPuzzle y = Lab.of(6, "(12)", "(23)", "(34)", "(45)", "(56)");
        check.due("as many steps as there can be", y.orbit(1), 63);
        check.due("and backwards", y.orbit(6), 63);
        check.due("all but the last", Lab.of(7, "(123456)").orbit(1), 63);
    }

    private void orbitBits() {
        check.due("positions 1 and 7", Lab.of(7, "(17)").orbit(7), 1 + 64);
        check.due("position 2", Lab.of(7, "(17)").orbit(2), 2);
        check.due("all of 7", Lab.of(7, "(1234567)").orbit(4), 127);
        check.due("all of 2", Lab.of(2, "(12)").orbit(2), 3);
    }

    private void orbitIndexes() {
        refusals.noIndex(Refusals.NO_POSITIONS, "orbit", PermutationPuzzle::orbit);
        for (int n = 2; n <= 7; n++) {
            PermutationPuzzle x = Lab.of(n);
            int next = n + 1;
            check.due("the first", x.orbit(1), 1);
            check.due("the last", x.orbit(n), 1 << (n - 1));
            check.noIndex("one more", () -> x.orbit(next));
            check.noIndex("one less", () -> x.orbit(0));
        }
    }

    private void found(PermutationPuzzle x, int moved, String word) {
        check.due("findCommutator(1, " + moved + ")", x.findCommutator(1, moved), word.length());
        check.due("commutator that moves " + moved, Lab.letters(x, 1), word);
        check.due("positions it moves", x.perform(1, 1), moved);
    }

    private void lengthsOfWords() {
        PermutationPuzzle x = Lab.of(5, "(15)(24)", "(13425)");
        found(x, 5, "abAB");
        found(x, 3, "abbABB");
        check.due("three letters would do for 4", Lab.store(x, 0, "<bab',ab>"), 10);
        check.due("positions it moves", x.perform(0, 1), 4);
        check.noElement("findCommutator(1, 4)", () -> x.findCommutator(1, 4));
        found(Lab.of(5, "(123)", "(345)"), 5, "abABBAba");
    }

    private void orderOfPairs() {
        // The first pair of all is that of the first letter with itself.
        found(Lab.of(3, "(12)", "(123)"), 0, "aaAA");
        // <a,b> before <b,a>, which moves as many.
        found(Lab.of(3, "(12)", "(123)"), 3, "abAB");
        // <b,aa> before <aa,b>: the lengths of u come before the letters of u.
        found(Lab.of(7, "(1234567)", "(12)"), 4, "baaBAA");
        // <b,c> before <a,bc>: the sum of the lengths comes before the letters of u.
        found(Lab.of(4, "(12)", "(123)", "(234)"), 4, "bcBC");
        // <ab,AB> before <ab,BA>: then by v; <aa,..> moves fewer.
        found(Lab.of(5, "(123)", "(345)"), 5, "abABBAba");
    }

    private void storedCommutator() {
        PermutationPuzzle x = Lab.busy();
        for (int slot = 0; slot < 4; slot++) {
            check.due("findCommutator", x.findCommutator(slot, 0), 4);
            check.due("letters", Lab.letters(x, slot), "aaAA");
        }
        String tokens = Lab.tokens(x);
        check.due("u, v and their inverses", x.findCommutator(2, 3), 4);
        check.due("letters", Lab.letters(x, 2), "abAB");
        check.due("the arrangement stays", Lab.tokens(x), tokens);
    }

    private void moved() {
        PermutationPuzzle x = Lab.of(7, "(1234)", "(17)(26)(35)");
        found(x, 0, "aaAA");
        found(x, 7, "abAB");
        for (int none : new int[] {-1, 1, 2, 3, 8}) {
            check.noElement("findCommutator(1, " + none + ")", () -> x.findCommutator(1, none));
        }
        PermutationPuzzle two = Lab.of(2, "(12)");
        found(two, 0, "aaAA");
        check.noElement("1 of 2", () -> two.findCommutator(1, 1));
        check.noElement("2 of 2", () -> two.findCommutator(1, 2));
    }

    private void lengthOfCommutator() {
        check.due("shortest", Lab.of(3, "(12)", "(123)").findCommutator(0, 3), 4);
        check.due("between", Lab.of(7, "(1234567)", "(12)").findCommutator(0, 4), 6);
        check.due("longest", Lab.of(5, "(123)", "(345)").findCommutator(0, 5), 8);
    }

    private void indexes() {
        for (int moved : new int[] {0, 3, 2, -1}) {
            refusals.noIndex(Refusals.NO_SLOTS, "findCommutator",
                    (x, slot) -> x.findCommutator(slot, moved));
        }
        check.due("findCommutator(0, 3)", Lab.busy().findCommutator(0, 3), 4);
        check.due("findCommutator(3, 3)", Lab.busy().findCommutator(3, 3), 4);
    }

    private void noCommutator() {
        int[] none = {-1, 1, 2, 6, 7, 8, Integer.MIN_VALUE, Integer.MAX_VALUE};
        for (int slot : new int[] {0, 3}) {
            refusals.each(none, NoSuchElementException.class, "findCommutator",
                    (x, moved) -> x.findCommutator(slot, moved));
        }
        PermutationPuzzle x = Lab.of(7);
        for (int moved = -1; moved <= 8; moved++) {
            int number = moved;
            check.noElement("without moves", () -> x.findCommutator(0, number));
        }
        x.define(4);
        found(x, 0, "eeEE");
        check.noElement("with one that moves nothing", () -> x.findCommutator(0, 3));
        Lab.define(x, 4, "(1234567)");
        check.noElement("with one alone", () -> x.findCommutator(0, 3));
        Lab.define(x, 0, "(12)");
        found(x, 3, "aeAE");
    }
}
