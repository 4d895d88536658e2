/** The boundaries that promises 29 to 31 name. */
final class RowBoundaries extends Boundaries {
    private static final String NO_SUCH_ELEMENT =
            "Throws `IndexOutOfBoundsException` if there is no such row or element";

    RowBoundaries(Sentences doc, Check check) {
        super(doc, check);
    }

    @Override
    void test() {
        doc.in("Promise 29");
        doc.says("Fills a row with the shares of the depths: the element d becomes the number of"
                + " reachable arrangements with the depth d, divided by the number of all reachable"
                + " arrangements, both converted to the type of the row", this::shares);
        doc.says("elements of depths that do not occur become 0.", this::depthsThatDoNotOccur);
        doc.says("Returns the number of depths that have no element in the row.",
                this::depthsWithoutElement);
        doc.says("Throws `IndexOutOfBoundsException` if there is no such row", this::fillIndexes);
        doc.in("Promise 30");
        doc.says("Multiplies an element of a row by an integer, which is converted to the type of"
                + " the row.", this::products);
        doc.says("`factor`: the factor, -1000 to 1000", this::factors);
        doc.says("Returns the new element, converted to int as by a Java cast.", this::casts);
        doc.says(NO_SUCH_ELEMENT, this::scaleIndexes);
        doc.says("Throws `IllegalArgumentException` if the factor is out of range",
                this::factorsOutOfRange);
        doc.says("Throws `ArithmeticException` if the absolute value of the product, which is"
                + " computed in the type of the row, is greater than 1000000",
                this::greatestProducts);
        doc.in("Promise 31");
        doc.says("Returns the remainder of an element of a row and an integer, as the operator % of"
                + " Java yields it; for the floats, the integer is converted to float first, and"
                + " the remainder to double.", this::remainders);
        doc.says(NO_SUCH_ELEMENT, this::remainderIndexes);
        doc.says("Throws `ArithmeticException` if the divisor is 0", this::divisors);
    }

    private void shares() {
        PermutationPuzzle x = Lab.deep();
        x.fillShares(0);
        x.fillShares(1);
        for (int depth = 0; depth < 24; depth++) {
            int count = x.countAt(depth);
            check.due("float " + depth, Lab.element(x, 0, depth),
                    (double) ((float) count / (float) 5040));
            check.due("double " + depth, Lab.element(x, 1, depth), (double) count / (double) 5040);
        }
        check.due("the first", Lab.element(x, 1, 0), 1.0 / 5040.0);
        check.due("the last", Lab.element(x, 1, 23), 8.0 / 5040.0);
        x.reset(7);
        x.fillShares(0);
        check.due("one arrangement alone", Lab.element(x, 0, 0), 1.0);
        check.due("the other row stays", Lab.element(x, 1, 23), 8.0 / 5040.0);
    }

    private void depthsThatDoNotOccur() {
        for (int row = 0; row < 2; row++) {
            PermutationPuzzle x = Lab.deep();
            x.fillShares(row);
            x.scale(row, 22, -1);
            x.scale(row, 23, 0);
            x.scale(row, 23, -1);
            check.due("an element", Lab.element(x, row, 23), -0.0);
            for (int move = 0; move < 4; move++) {
                x.define(move);
            }
            Lab.define(x, 4, "(12)");
            x.fillShares(row);
            check.due("element 0", Lab.element(x, row, 0), 0.5);
            check.due("element 1", Lab.element(x, row, 1), 0.5);
            for (int depth = 2; depth < 24; depth++) {
                check.due("element " + depth, Lab.element(x, row, depth), 0.0);
            }
        }
    }

    private void withoutElement(int greatestDepth, int want, String... moves) {
        for (int row = 0; row < 2; row++) {
            PermutationPuzzle x = Lab.of(7, moves);
            check.due("greatest depth", x.greatestDepth(), greatestDepth);
            check.due("fillShares(" + row + ")", x.fillShares(row), want);
            check.due("element 23 is 0", Lab.element(x, row, 23) == 0, greatestDepth < 23);
        }
    }

    private void depthsWithoutElement() {
        withoutElement(0, 0);
        withoutElement(1, 0, "(12)");
        withoutElement(22, 0, "(15674)(23)", "(13)(27)(56)");
        withoutElement(23, 0, "(2364)(57)", "(17)(23)(56)");
        withoutElement(24, 1, "(12)(34)", "(25)(37)(46)", "(34)(57)", "(34)(67)");
        withoutElement(25, 2, "(1632)", "(15)(24)(67)");
        withoutElement(28, 5, "(146)(237)", "(17)(26)(35)");
    }

    private void fillIndexes() {
        refusals.noIndex(Refusals.NO_ROWS, "fillShares", PermutationPuzzle::fillShares);
        check.due("fillShares(0)", Lab.busy().fillShares(0), 0);
        check.due("fillShares(1)", Lab.busy().fillShares(1), 0);
    }

    /** Has 1 / size as the element 0 of both rows, where size positions go round. */
    private static PermutationPuzzle withShare(int size) {
        PermutationPuzzle x = Lab.of(7, "(1234567)".substring(0, size + 1) + ")");
        x.fillShares(0);
        x.fillShares(1);
        return x;
    }

    private static void scale(PermutationPuzzle x, int row, int... factors) {
        for (int factor : factors) {
            x.scale(row, 0, factor);
        }
    }

    private void products() {
        PermutationPuzzle x = withShare(3);
        scale(x, 0, 5, 600);
        scale(x, 1, 5, 600);
        check.due("in floats", Lab.element(x, 0, 0), (double) (1f / 3f * 5f * 600f));
        check.due("in doubles", Lab.element(x, 1, 0), 1.0 / 3.0 * 5.0 * 600.0);
        check.due("the neighbour stays", Lab.element(x, 0, 1), (double) (2f / 3f));
        check.due("the last element", x.scale(0, 23, 1000), 0);
        check.due("is 0", Lab.element(x, 0, 23), 0.0);
        x.scale(1, 23, -1000);
        check.due("0 times a negative factor", Lab.element(x, 1, 23), -0.0);
    }

    private void factors() {
        for (int row = 0; row < 2; row++) {
            int number = row;
            PermutationPuzzle x = new PermutationPuzzle();
            x.fillShares(row);
            check.due("1000", x.scale(row, 0, 1000), 1000);
            check.due("-1000", x.scale(row, 0, -1000), -1000000);
            check.due("1", x.scale(row, 0, 1), -1000000);
            check.due("-1", x.scale(row, 0, -1), 1000000);
            check.due("0", x.scale(row, 0, 0), 0);
            check.badArgument("1001", () -> x.scale(number, 0, 1001));
            check.badArgument("-1001", () -> x.scale(number, 0, -1001));
        }
    }

    private void casts() {
        for (int row = 0; row < 2; row++) {
            PermutationPuzzle x = withShare(4);
            check.due("0.25", x.scale(row, 0, 1), 0);
            check.due("-0.75", x.scale(row, 0, -3), 0);
            check.due("3.75", x.scale(row, 0, -5), 3);
            check.due("-3.75", x.scale(row, 0, -1), -3);
            check.due("-7.5", x.scale(row, 0, 2), -7);
            check.due("-15", x.scale(row, 0, 2), -15);
        }
        PermutationPuzzle y = withShare(3);
        scale(y, 1, 5, 600);
        check.due("999999.9999999999", y.scale(1, 0, 1000), 999999);
        check.due("-999999.9999999999", y.scale(1, 0, -1), -999999);
    }

    private void scaleIndexes() {
        for (int factor : new int[] {1, 1001}) {
            refusals.noIndex(Refusals.NO_ROWS, "scale in", (x, row) -> x.scale(row, 0, factor));
            refusals.noIndex(Refusals.NO_ELEMENTS, "scale of floats",
                    (x, index) -> x.scale(0, index, factor));
            refusals.noIndex(Refusals.NO_ELEMENTS, "scale of doubles",
                    (x, index) -> x.scale(1, index, factor));
        }
        check.due("scale(0, 0, 1000)", Lab.busy().scale(0, 0, 1000), 8);
        check.due("scale(1, 0, 1000)", Lab.busy().scale(1, 0, 1000), 8);
        check.due("scale(0, 23, 1000)", Lab.busy().scale(0, 23, 1000), 0);
        check.due("scale(1, 23, 1000)", Lab.busy().scale(1, 23, 1000), 0);
    }

    private void factorsOutOfRange() {
        int[] wrong = {1001, -1001, 65536, Integer.MIN_VALUE, Integer.MAX_VALUE};
        for (int index : new int[] {0, 23}) {
            refusals.each(wrong, IllegalArgumentException.class, "scale of floats",
                    (x, factor) -> x.scale(0, index, factor));
            refusals.each(wrong, IllegalArgumentException.class, "scale of doubles",
                    (x, factor) -> x.scale(1, index, factor));
        }
        check.due("1000", Lab.busy().scale(0, 0, 1000), 8);
        check.due("-1000", Lab.busy().scale(0, 0, -1000), -8);
    }

    private void greatestProducts() {
        for (int row = 0; row < 2; row++) {
            tooGreat(row, 1000, 1000, 121);
            tooGreat(row, 1000, -1000, 121);
            tooGreat(row, 1000, 1000, 100, 2);
            tooGreat(row, 1000, 1000, 100, 1000);
            PermutationPuzzle x = withShare(4);
            scale(x, row, 1000, 1000);
            check.due("1000000 and no more", x.scale(row, 0, 4), 1000000);
            check.due("-1000000 and no more", x.scale(row, 0, -1), -1000000);
        }
        productsNearTheGreatest();
    }

    /** The last factor of 1/120, after the others, is refused, whatever its sign. */
    private void tooGreat(int row, int... factors) {
        for (int sign = -1; sign <= 1; sign += 2) {
            int last = sign * factors[factors.length - 1];
            PermutationPuzzle x = busyWith(row, factors);
            PermutationPuzzle twin = busyWith(row, factors);
            refusals.leaves(Lab.everything(twin), ArithmeticException.class, x,
                    "scale by " + last, y -> y.scale(row, 0, last));
        }
    }

    private static PermutationPuzzle busyWith(int row, int... factors) {
        PermutationPuzzle x = Lab.busy();
        for (int i = 0; i + 1 < factors.length; i++) {
            x.scale(row, 0, factors[i]);
        }
        return x;
    }

    /** Products that are the next float or double beside 1000000. */
    private void productsNearTheGreatest() {
        PermutationPuzzle thirds = withShare(3);
        scale(thirds, 0, 5, 600);
        check.badArithmetic("1000000.0625", () -> thirds.scale(0, 0, 1000));
        check.badArithmetic("-1000000.0625", () -> thirds.scale(0, 0, -1000));
        check.due("the element stays", Lab.element(thirds, 0, 0), (double) (1f / 3f * 5f * 600f));
        scale(thirds, 1, 5, 600, 1000);
        check.due("the next below", Lab.element(thirds, 1, 0), Math.nextDown(1000000.0));
        PermutationPuzzle rounded = withShare(3);
        scale(rounded, 0, 4, 1000);
        check.due("1000000.03, which is no float", rounded.scale(0, 0, 750), 1000000);
        check.due("the element", Lab.element(rounded, 0, 0), 1000000.0);
        PermutationPuzzle sevenths = withShare(7);
        scale(sevenths, 1, 125, 80);
        check.badArithmetic("1000000.0000000001", () -> sevenths.scale(1, 0, 700));
        check.badArithmetic("-1000000.0000000001", () -> sevenths.scale(1, 0, -700));
        check.due("the element stays", Lab.element(sevenths, 1, 0), 1.0 / 7.0 * 125.0 * 80.0);
        scale(sevenths, 0, 19, 681, 541);
        check.due("the next below", Lab.element(sevenths, 0, 0), (double) Math.nextDown(1000000f));
    }

    private void remainders() {
        for (int row = 0; row < 2; row++) {
            PermutationPuzzle x = withShare(4);
            x.scale(row, 0, 30);
            remainder(x, row, 7.5, 8, 7, 1, -1, 2, -2, Integer.MAX_VALUE, Integer.MIN_VALUE);
            x.scale(row, 0, -2);
            remainder(x, row, -15, 16, 15, 14, -15, 5, -5, 1, Integer.MAX_VALUE, Integer.MIN_VALUE);
            check.due("the sign of the element", x.remainder(row, 0, 5), -0.0);
            x.scale(row, 0, 0);
            remainder(x, row, -0.0, 1, -1, 7, Integer.MIN_VALUE);
            check.due("of 0", x.remainder(row, 23, 1), 0.0);
            check.due("of 0", x.remainder(row, 23, Integer.MIN_VALUE), 0.0);
        }
        remaindersNearTheDivisor();
    }

    private void remainder(PermutationPuzzle x, int row, double element, int... divisors) {
        for (int divisor : divisors) {
            double want = row == 0 ? (double) ((float) element % (float) divisor)
                    : element % divisor;
            check.due(element + " % " + divisor, x.remainder(row, 0, divisor), want);
        }
    }

    /** Elements that are the next float or double below a multiple of the divisor. */
    private void remaindersNearTheDivisor() {
        PermutationPuzzle thirds = withShare(3);
        scale(thirds, 1, 5, 600, 1000);
        int[] divisors = {1, 2, 3, 7, 10, 999999, 1000000, 1000001, 500000};
        remainder(thirds, 1, Math.nextDown(1000000.0), divisors);
        PermutationPuzzle sevenths = withShare(7);
        scale(sevenths, 0, 19, 681, 541);
        remainder(sevenths, 0, Math.nextDown(1000000f), divisors);
        remainder(sevenths, 0, Math.nextDown(1000000f), 16777216, 16777217, 16777219);
    }

    private void remainderIndexes() {
        for (int divisor : new int[] {1, 0}) {
            refusals.noIndex(Refusals.NO_ROWS, "remainder in",
                    (x, row) -> x.remainder(row, 0, divisor));
            refusals.noIndex(Refusals.NO_ELEMENTS, "remainder of floats",
                    (x, index) -> x.remainder(0, index, divisor));
            refusals.noIndex(Refusals.NO_ELEMENTS, "remainder of doubles",
                    (x, index) -> x.remainder(1, index, divisor));
        }
        PermutationPuzzle x = Lab.busy();
        check.due("remainder(0, 0, 1)", x.remainder(0, 0, 1), (double) (1f / 120f));
        check.due("remainder(1, 0, 1)", x.remainder(1, 0, 1), 1.0 / 120.0);
        check.due("remainder(0, 23, 1)", x.remainder(0, 23, 1), 0.0);
        check.due("remainder(1, 23, 1)", x.remainder(1, 23, 1), 0.0);
    }

    private void divisors() {
        for (int index : new int[] {0, 1, 23}) {
            refusals.busy(ArithmeticException.class, "remainder(0, ..)",
                    x -> x.remainder(0, index, 0));
            refusals.busy(ArithmeticException.class, "remainder(1, ..)",
                    x -> x.remainder(1, index, 0));
        }
        for (int row = 0; row < 2; row++) {
            PermutationPuzzle x = withShare(4);
            x.scale(row, 0, 6);
            check.due("1.5 % 1", x.remainder(row, 0, 1), 0.5);
            check.due("1.5 % -1", x.remainder(row, 0, -1), 0.5);
        }
    }
}
