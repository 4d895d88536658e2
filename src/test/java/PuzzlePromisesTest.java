/** Promises 23 to 28: the puzzle as a whole. */
public final class PuzzlePromisesTest {
    private static final Check CHECK = new Check();
    private static final int[] NO_SLOTS = {-1, 4, Integer.MIN_VALUE, Integer.MAX_VALUE};

    public static void main(String[] args) {
        promises23To26();
        promises23To26FollowTheMoves();
        promise27();
        promise28();
        promise28Letters();
        promise28Failures();
        CHECK.finish();
    }

    /** The counts begin with that of depth 0. */
    private static void depths(PermutationPuzzle x, double average, int... counts) {
        int sum = 0;
        for (int i = 0; i < counts.length; i++) {
            CHECK.due("countAt(" + i + ")", x.countAt(i), counts[i]);
            sum += counts[i];
        }
        for (int none : new int[] {-1, counts.length, 5039, 5040, 5041, Integer.MIN_VALUE,
            Integer.MAX_VALUE}) {
            CHECK.due("countAt(" + none + ")", x.countAt(none), 0);
        }
        CHECK.due("reachable()", x.reachable(), sum);
        CHECK.due("greatestDepth()", x.greatestDepth(), counts.length - 1);
        CHECK.due("averageDepth()", x.averageDepth(), average);
    }

    private static void promises23To26() {
        depths(Lab.of(7), 0.0, 1);
        depths(Lab.of(7, "", ""), 0.0, 1);
        depths(Lab.of(3, "(12)"), 0.5, 1, 1);
        depths(Lab.of(3, "(123)"), 2.0 / 3, 1, 2);
        depths(Lab.of(3, "(123)", "(12)"), 7.0 / 6, 1, 3, 2);
        depths(Lab.of(4, "(1234)"), 1.0, 1, 2, 1);
        depths(Lab.of(7, "(1234567)"), 12.0 / 7, 1, 2, 2, 2);
        depths(Lab.of(7, "(1234)(567)"), 3.0, 1, 2, 2, 2, 2, 2, 1);
        depths(Lab.of(4, "(12)(34)", "(13)(24)"), 1.0, 1, 2, 1);
        // Sorting by neighbours: the depth is the number of inversions.
        depths(Lab.of(4, "(12)", "(23)", "(34)"), 3.0, 1, 3, 5, 6, 5, 3, 1);
        depths(Lab.of(5, "(12)", "(23)", "(34)", "(45)"), 5.0,
                1, 4, 9, 15, 20, 22, 20, 15, 9, 4, 1);
        // Exchanges with position 1: the star.
        depths(Lab.of(4, "(12)", "(13)", "(14)"), 62.0 / 24, 1, 3, 6, 9, 5);
        PermutationPuzzle deep = Lab.of(7, "(42)(16)(75)", "(712)(534)");
        CHECK.due("reachable()", deep.reachable(), 5040);
        CHECK.due("greatestDepth()", deep.greatestDepth(), 28);
    }

    private static void promises23To26FollowTheMoves() {
        PermutationPuzzle x = Lab.of(4, "(1234)");
        depths(x, 1.0, 1, 2, 1);
        x.exchange(1, 2);
        depths(x, 1.0, 1, 2, 1);
        Lab.define(x, 0, "(12)");
        depths(x, 0.5, 1, 1);
        x.snapshot();
        Lab.define(x, 4, "(34)");
        depths(x, 1.0, 1, 2, 1);
        x.restore();
        depths(x, 0.5, 1, 1);
        x.reset(3);
        depths(x, 0.0, 1);
    }

    private static void orbits(PermutationPuzzle x, int... masks) {
        for (int i = 0; i < masks.length; i++) {
            CHECK.due("orbit(" + (i + 1) + ")", x.orbit(i + 1), masks[i]);
        }
    }

    private static void promise27() {
        orbits(Lab.of(3), 1, 2, 4);
        orbits(Lab.of(7, "(1234567)"), 127, 127, 127, 127, 127, 127, 127);
        orbits(Lab.of(7, "(135)", "(26)"), 21, 34, 21, 8, 21, 34, 64);
        orbits(Lab.of(6, "(12)", "(23)", "(45)"), 7, 7, 7, 24, 24, 32);
        // Chains in either direction need as many rounds as there are positions left.
        orbits(Lab.of(6, "(12)", "(23)", "(34)", "(45)", "(56)"), 63, 63, 63, 63, 63, 63);
        orbits(Lab.of(6, "(56)", "(45)", "(34)", "(23)", "(12)"), 63, 63, 63, 63, 63, 63);
        orbits(Lab.of(7, "(12)(34)(56)", "(23)(45)(67)"), 127, 127, 127, 127, 127, 127, 127);
        orbits(Lab.of(2, "", "(12)"), 3, 3);
        PermutationPuzzle x = Lab.of(4, "(12)");
        for (int wrong : new int[] {0, 5, -1, Integer.MIN_VALUE, Integer.MAX_VALUE}) {
            CHECK.noIndex("orbit(" + wrong + ")", () -> x.orbit(wrong));
        }
        x.exchange(1, 4);
        CHECK.due("the arrangement does not matter", x.orbit(1), 3);
    }

    /** The words by the number of moved positions from 0; null where there is none. */
    private static void commutators(PermutationPuzzle x, String... words) {
        for (int i = 0; i < words.length; i++) {
            int moved = i;
            String before = Lab.letters(x, 2);
            if (words[i] == null) {
                CHECK.noElement("findCommutator(2, " + i + ")", () -> x.findCommutator(2, moved));
                CHECK.due("the word stays", Lab.letters(x, 2), before);
            } else {
                CHECK.due("findCommutator(2, " + i + ")", x.findCommutator(2, i),
                        words[i].length());
                CHECK.due("commutator that moves " + i, Lab.letters(x, 2), words[i]);
                CHECK.due("what it moves", x.perform(2, 1), i);
                x.perform(2, -1);
            }
        }
    }

    private static void promise28() {
        commutators(Lab.of(3), null, null, null, null, null, null, null, null);
        commutators(Lab.of(3, "(123)", "(12)"), "aaAA", null, null, "abAB", null, null, null, null);
        commutators(Lab.of(4, "(12)", "(34)"), "aaAA", null, null, null, null);
        commutators(Lab.of(4, "(1234)", "(13)"), "aaAA", null, null, null, "abAB");
        // Words with two letters: <b,aa> moves 4, <ab,AB> moves 5.
        commutators(Lab.of(7, "(1234567)", "(12)"), "aaAA", null, null, "abAB", "baaBAA", null,
                null, null);
        commutators(Lab.of(5, "(123)", "(345)"), "aaAA", null, null, "abAB", null, "abABBAba");
        commutators(Lab.of(7, "(1234)", "(17)(26)(35)"), "aaAA", null, null, null, null, null,
                null, "abAB");
        // <a,bc> moves 4, too, but comes later, since it has more letters.
        PermutationPuzzle three = Lab.of(4, "(12)", "(123)", "(234)");
        three.findCommutator(2, 4);
        CHECK.due("commutator that moves 4", Lab.letters(three, 2), "bcBC");
        commutators(Lab.of(7, "(12)", "(34)", "(56)", "", "(67)"), "aaAA", null, null, "ceCE");
        PermutationPuzzle x = Lab.of(4, "(1234)", "(12)");
        Lab.arrange(x, "4231");
        x.findCommutator(0, 3);
        CHECK.due("the arrangement stays", Lab.tokens(x), "4231");
        CHECK.due("commutator", Lab.letters(x, 0), "abAB");
    }

    private static void promise28Letters() {
        PermutationPuzzle x = new PermutationPuzzle();
        Lab.define(x, 1, "(123)");
        Lab.define(x, 4, "(12)");
        commutators(x, "bbBB", null, null, "beBE");
        PermutationPuzzle still = Lab.of(3, "", "(123)", "(12)");
        commutators(still, "aaAA", null, null, "bcBC");
        PermutationPuzzle nothing = Lab.of(5);
        Lab.define(nothing, 3, "");
        commutators(nothing, "ddDD", null, null, null);
    }

    private static void promise28Failures() {
        PermutationPuzzle x = Lab.of(3, "(123)", "(12)");
        Lab.store(x, 0, "ab");
        for (int wrong : new int[] {-1, 1, 2, 4, 8, Integer.MIN_VALUE, Integer.MAX_VALUE}) {
            CHECK.noElement("findCommutator(0, " + wrong + ")", () -> x.findCommutator(0, wrong));
        }
        for (int wrong : NO_SLOTS) {
            CHECK.noIndex("findCommutator(" + wrong + ", 3)", () -> x.findCommutator(wrong, 3));
            CHECK.noIndex("the slot is checked first", () -> x.findCommutator(wrong, 2));
        }
        CHECK.due("the word stays", Lab.letters(x, 0), "ab");
    }
}
