import java.util.Random;

/** Promises 29 to 31: the rows of floats and doubles. */
public final class RowPromisesTest {
    private static final Check CHECK = new Check();
    private static final int[] NO_ROWS = {-1, 2, Integer.MIN_VALUE, Integer.MAX_VALUE};
    private static final int[] NO_ELEMENTS = {-1, 24, Integer.MIN_VALUE, Integer.MAX_VALUE};

    public static void main(String[] args) {
        promise29();
        promise29ManyDepths();
        promise30();
        promise30Limits();
        promise30Failures();
        promise31();
        promise31AsTheOperator();
        promise31Failures();
        CHECK.finish();
    }

    private static void promise29() {
        PermutationPuzzle x = Lab.of(3, "(123)", "(12)");
        CHECK.due("fillShares(0)", x.fillShares(0), 0);
        CHECK.due("floats 0", Lab.element(x, 0, 0), (double) (1f / 6f));
        CHECK.due("floats 1", Lab.element(x, 0, 1), 0.5);
        CHECK.due("floats 2", Lab.element(x, 0, 2), (double) (2f / 6f));
        CHECK.due("the other row stays", Lab.element(x, 1, 0), 0.0);
        CHECK.due("fillShares(1)", x.fillShares(1), 0);
        CHECK.due("doubles 0", Lab.element(x, 1, 0), 1.0 / 6.0);
        CHECK.due("doubles 1", Lab.element(x, 1, 1), 0.5);
        CHECK.due("doubles 2", Lab.element(x, 1, 2), 2.0 / 6.0);
        for (int i = 3; i < 24; i++) {
            CHECK.due("floats " + i, Lab.element(x, 0, i), 0.0);
            CHECK.due("doubles " + i, Lab.element(x, 1, i), 0.0);
        }
        Lab.define(x, 0, "");
        x.fillShares(1);
        CHECK.due("doubles 1", Lab.element(x, 1, 1), 0.5);
        CHECK.due("elements of depths that do not occur any more", Lab.element(x, 1, 2), 0.0);
        CHECK.due("floats 2", Lab.element(x, 0, 2), (double) (2f / 6f));
        String before = Lab.state(x);
        for (int wrong : NO_ROWS) {
            CHECK.noIndex("fillShares(" + wrong + ")", () -> x.fillShares(wrong));
        }
        CHECK.due("the rows stay", Lab.state(x), before);
    }

    private static void promise29ManyDepths() {
        PermutationPuzzle x = Lab.of(7, "(42)(16)(75)", "(712)(534)");
        CHECK.due("depths 24 to 28 have no element", x.fillShares(0), 5);
        CHECK.due("depths 24 to 28 have no element", x.fillShares(1), 5);
        for (int i = 0; i < 24; i++) {
            CHECK.due("floats " + i, Lab.element(x, 0, i), (double) ((float) x.countAt(i) / 5040f));
            CHECK.due("doubles " + i, Lab.element(x, 1, i), x.countAt(i) / 5040.0);
        }
        PermutationPuzzle y = Lab.of(7, "(27)(3465)", "(35)(17)(42)");
        CHECK.due("greatestDepth()", y.greatestDepth(), 23);
        CHECK.due("all depths have elements", y.fillShares(0), 0);
        CHECK.due("the last one, too", Lab.element(y, 0, 23) > 0, true);
    }

    private static void promise30() {
        PermutationPuzzle x = Lab.of(4, "(1234)");
        x.fillShares(0);
        x.fillShares(1);
        CHECK.due("0.25 * 10", x.scale(0, 0, 10), 2);
        CHECK.due("element", Lab.element(x, 0, 0), 2.5);
        CHECK.due("2.5 * -3", x.scale(0, 0, -3), -7);
        CHECK.due("element", Lab.element(x, 0, 0), -7.5);
        CHECK.due("the other row stays", Lab.element(x, 1, 0), 0.25);
        CHECK.due("0.25 * -7", x.scale(1, 0, -7), -1);
        CHECK.due("element", Lab.element(x, 1, 0), -1.75);
        CHECK.due("times 0", x.scale(1, 0, 0), 0);
        CHECK.due("element", Lab.element(x, 1, 0), -0.0);
        CHECK.due("0 times", x.scale(0, 23, 1000), 0);
        CHECK.due("0 times", x.scale(0, 23, -1000), 0);
        CHECK.due("element", Lab.element(x, 0, 23), -0.0);

        PermutationPuzzle y = Lab.of(7, "(1234567)");
        y.fillShares(0);
        y.fillShares(1);
        float small = 1f / 7f;
        double large = 1.0 / 7.0;
        for (int factor : new int[] {3, 7, 11, -13, 1, 999}) {
            small = small * factor;
            large = large * factor;
            CHECK.due("floats times " + factor, y.scale(0, 0, factor), (int) small);
            CHECK.due("doubles times " + factor, y.scale(1, 0, factor), (int) large);
            CHECK.due("float", Lab.element(y, 0, 0), (double) small);
            CHECK.due("double", Lab.element(y, 1, 0), large);
        }
    }

    private static void promise30Limits() {
        for (int row = 0; row < 2; row++) {
            int r = row;
            PermutationPuzzle x = new PermutationPuzzle();
            x.fillShares(r);
            CHECK.due("1 * -1000", x.scale(r, 0, -1000), -1000);
            CHECK.due("-1000 * 1000", x.scale(r, 0, 1000), -1000000);
            CHECK.badArithmetic("-1000000 * 2", () -> x.scale(r, 0, 2));
            CHECK.badArithmetic("-1000000 * -1000", () -> x.scale(r, 0, -1000));
            CHECK.due("the element stays", Lab.element(x, r, 0), -1000000.0);
            CHECK.due("-1000000 * -1", x.scale(r, 0, -1), 1000000);
            CHECK.badArithmetic("1000000 * 2", () -> x.scale(r, 0, 2));
            CHECK.badArithmetic("1000000 * -2", () -> x.scale(r, 0, -2));
            CHECK.due("the element stays", Lab.element(x, r, 0), 1000000.0);
            for (int wrong : new int[] {1001, -1001, Integer.MIN_VALUE, Integer.MAX_VALUE}) {
                CHECK.badArgument("the factor comes before the product",
                        () -> x.scale(r, 0, wrong));
            }
            CHECK.due("1000000 * 0", x.scale(r, 0, 0), 0);
        }
        promise30ComputesInTheTypeOfTheRow();
    }

    /** 1/7 * 25 * 280 * 1000 comes to more than 1000000 in floats and to less in doubles. */
    private static void promise30ComputesInTheTypeOfTheRow() {
        PermutationPuzzle x = Lab.of(7, "(1234567)");
        for (int row = 0; row < 2; row++) {
            x.fillShares(row);
            x.scale(row, 0, 25);
            CHECK.due("1/7 * 25 * 280", x.scale(row, 0, 280), row == 0 ? 1000 : 999);
        }
        CHECK.badArithmetic("floats", () -> x.scale(0, 0, 1000));
        CHECK.due("the element stays", Lab.element(x, 0, 0), (double) (1f / 7f * 25f * 280f));
        CHECK.due("doubles", x.scale(1, 0, 1000), 999999);
    }

    private static void promise30Failures() {
        PermutationPuzzle x = new PermutationPuzzle();
        x.fillShares(0);
        x.fillShares(1);
        for (int wrong : NO_ROWS) {
            CHECK.noIndex("the row comes first", () -> x.scale(wrong, 0, 1));
            CHECK.noIndex("the row comes first", () -> x.scale(wrong, 0, 1001));
        }
        for (int wrong : NO_ELEMENTS) {
            CHECK.noIndex("the element comes first", () -> x.scale(0, wrong, 1));
            CHECK.noIndex("the element comes first", () -> x.scale(1, wrong, -1001));
        }
        CHECK.badArgument("scale(0, 23, 1001)", () -> x.scale(0, 23, 1001));
        CHECK.badArgument("scale(1, 23, -1001)", () -> x.scale(1, 23, -1001));
        CHECK.due("floats", Lab.element(x, 0, 0), 1.0);
        CHECK.due("doubles", Lab.element(x, 1, 0), 1.0);
    }

    private static void promise31() {
        for (int row = 0; row < 2; row++) {
            PermutationPuzzle x = Lab.of(4, "(1234)");
            x.fillShares(row);
            x.scale(row, 0, 30);
            CHECK.due("7.5 % 2", x.remainder(row, 0, 2), 1.5);
            CHECK.due("7.5 % -2", x.remainder(row, 0, -2), 1.5);
            CHECK.due("7.5 % 8", x.remainder(row, 0, 8), 7.5);
            CHECK.due("7.5 % 1", x.remainder(row, 0, 1), 0.5);
            x.scale(row, 0, -2);
            CHECK.due("-15 % 4", x.remainder(row, 0, 4), -3.0);
            CHECK.due("-15 % -4", x.remainder(row, 0, -4), -3.0);
            CHECK.due("-15 % 5", x.remainder(row, 0, 5), -0.0);
            CHECK.due("-15 % 15", x.remainder(row, 0, 15), -0.0);
            CHECK.due("-15 % MIN_VALUE", x.remainder(row, 0, Integer.MIN_VALUE), -15.0);
            CHECK.due("-15 % MAX_VALUE", x.remainder(row, 0, Integer.MAX_VALUE), -15.0);
            CHECK.due("0 % 3", x.remainder(row, 23, 3), 0.0);
            x.scale(row, 23, -1);
            CHECK.due("-0 % 3", x.remainder(row, 23, 3), -0.0);
            CHECK.due("the element stays", Lab.element(x, row, 0), -15.0);
        }
    }

    /** Many elements and divisors against the operator itself. */
    private static void promise31AsTheOperator() {
        Random random = new Random(31);
        String[][] puzzles = {{"(1234567)"}, {"(123)", "(12)"}, {"(1234567)", "(12)"},
            {"(123)(4567)", "(17)"}, {"(12345)", "(34567)"}};
        for (String[] moves : puzzles) {
            for (int object = 0; object < 50; object++) {
                manyRemainders(Lab.of(7, moves), random);
            }
        }
    }

    private static void manyRemainders(PermutationPuzzle x, Random random) {
        x.fillShares(0);
        x.fillShares(1);
        for (int i = 0; i < 40; i++) {
            int index = random.nextInt(3);
            for (int row = 0; row < 2; row++) {
                double size = Math.abs(Lab.element(x, row, index)) + 0.001;
                int most = (int) Math.min(1000, 1000000 / size);
                x.scale(row, index, 1 + random.nextInt(Math.max(1, most - 1)));
            }
            int divisor = random.nextInt(i % 2 == 0 ? 30 : 100000) + 1;
            float small = (float) Lab.element(x, 0, index);
            double large = Lab.element(x, 1, index);
            CHECK.due(small + " % " + divisor, x.remainder(0, index, divisor),
                    (double) (small % (float) divisor));
            CHECK.due(large + " % -" + divisor, x.remainder(1, index, -divisor),
                    large % (double) -divisor);
        }
    }

    private static void promise31Failures() {
        PermutationPuzzle x = new PermutationPuzzle();
        for (int wrong : NO_ROWS) {
            CHECK.noIndex("the row comes first", () -> x.remainder(wrong, 0, 1));
            CHECK.noIndex("the row comes first", () -> x.remainder(wrong, 0, 0));
        }
        for (int wrong : NO_ELEMENTS) {
            CHECK.noIndex("the element comes first", () -> x.remainder(0, wrong, 1));
            CHECK.noIndex("the element comes first", () -> x.remainder(1, wrong, 0));
        }
        CHECK.badArithmetic("remainder(0, 23, 0)", () -> x.remainder(0, 23, 0));
        CHECK.badArithmetic("remainder(1, 0, 0)", () -> x.remainder(1, 0, 0));
    }
}
