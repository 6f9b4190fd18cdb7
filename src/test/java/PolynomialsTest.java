/** Promises 12, 16 and 17: rest, value and shift. */
public final class PolynomialsTest {
    private static final int MIN = Integer.MIN_VALUE;
    private static final int MAX = Integer.MAX_VALUE;
    private static final Check CHECK = new Check();

    public static void main(String[] args) {
        restSmall();
        restOfMadePolynomials();
        restRefused();
        value();
        shiftSmall();
        shiftMixed();
        shiftRefused();
        CHECK.finish();
    }

    private static void restSmall() {
        SeriesSuite x = new SeriesSuite();
        // yyy - 2yy - 4 divided by y - 3 leaves 5.
        Reference.write(x, 0, -4, 0, -2, 1);
        Reference.write(x, 1, -3, 1);
        CHECK.due("rest(0, 1)", x.rest(0, 1), true);
        CHECK.dueSeries("rest(0, 1)", x, 0, 5);
        CHECK.dueSeries("rest(0, 1)", x, 1, 12286, 1);
        // By a polynomial of a higher degree: nothing changes.
        Reference.write(x, 2, 7, 8, 9);
        x.set(3, 31, 5);
        CHECK.due("rest(2, 3)", x.rest(2, 3), true);
        CHECK.dueSeries("rest(2, 3)", x, 2, 7, 8, 9);
        // By a number, and by itself: nothing is left.
        x.fill(4, 0, 0, 0);
        x.set(4, 0, 3);
        CHECK.due("rest(2, 4)", x.rest(2, 4), true);
        CHECK.dueSeries("rest(2, 4)", x, 2);
        CHECK.due("rest(3, 3)", x.rest(3, 3), true);
        CHECK.dueSeries("rest(3, 3)", x, 3);
        CHECK.due("rest of 0", x.rest(2, 4), true);
        CHECK.dueSeries("rest of 0", x, 2);
        // Both of degree 31, with lead 2 and lead 4: half of the divisor is taken away.
        x.fill(0, 0, 2, 1);
        x.fill(1, 0, 4, 1);
        x.set(0, 30, 9);
        CHECK.due("rest(0, 1)", x.rest(0, 1), true);
        CHECK.due("degree(0)", x.degree(0), 30);
        CHECK.due("coefficient(0, 30)", x.coefficient(0, 30), 7);
        CHECK.due("coefficient(0, 0)", x.coefficient(0, 0), 0);
    }

    private static void restOfMadePolynomials() {
        Numbers numbers = new Numbers(12);
        for (int divisorDegree = 0; divisorDegree < 32; divisorDegree++) {
            for (int round = 0; round < 12; round++) {
                int[] divisor = numbers.series(divisorDegree);
                int[] quotient = numbers.series(round == 0 ? 31 - divisorDegree : numbers.below(33 - divisorDegree) - 1);
                int[] left = numbers.series(round < 2 ? divisorDegree - 1 : numbers.below(divisorDegree + 1) - 1);
                int[] made = Reference.sum(left, Reference.product(divisor, quotient), 1);
                SeriesSuite x = new SeriesSuite();
                Reference.write(x, 4, made);
                Reference.write(x, 2, divisor);
                String call = "rest(4, 2) with a divisor of degree " + divisorDegree;
                CHECK.due(call, x.rest(4, 2), true);
                CHECK.dueSeries(call, x, 4, left);
                CHECK.dueSeries(call, x, 2, divisor);
            }
        }
    }

    private static void restRefused() {
        SeriesSuite x = new SeriesSuite();
        x.fill(0, 0, 2, 3);
        int[] before = Reference.read(x, 0);
        CHECK.due("rest by 0", x.rest(0, 1), false);
        CHECK.due("rest of 0 by itself", x.rest(1, 1), false);
        CHECK.due("rest(0, 5)", x.rest(0, 5), false);
        CHECK.due("rest(0, -1)", x.rest(0, -1), false);
        CHECK.due("rest(5, 0)", x.rest(5, 0), false);
        CHECK.due("rest(-1, 0)", x.rest(-1, 0), false);
        CHECK.due("rest(MIN, MAX)", x.rest(MIN, MAX), false);
        CHECK.dueSeries("rest refused", x, 0, before);
    }

    private static void value() {
        SeriesSuite x = new SeriesSuite();
        CHECK.due("value of 0", x.value(0, 17), 0);
        Reference.write(x, 0, 5, 4, 3);
        CHECK.due("value(0, 0)", x.value(0, 0), 5);
        CHECK.due("value(0, 2)", x.value(0, 2), 25);
        CHECK.due("value(0, -1)", x.value(0, -1), 4);
        CHECK.due("value(0, 12289)", x.value(0, 12289), 5);
        int[] points = {0, 1, -1, 2, 3, 12287, 12288, 12289, 12290, -12288, -12289, 65536, MIN, MIN + 1, MAX, MAX - 1};
        Numbers numbers = new Numbers(16);
        for (int round = 0; round < 20; round++) {
            int[] a = numbers.series(31 - round % 3);
            Reference.write(x = new SeriesSuite(), 4, a);
            for (int point : points) {
                CHECK.due("value(4, " + point + ")", x.value(4, point), Reference.value(a, point));
            }
            CHECK.dueSeries("value", x, 4, a);
        }
        CHECK.due("value(5, 1)", x.value(5, 1), -2);
        CHECK.due("value(-1, 1)", x.value(-1, 1), -2);
        CHECK.due("value(MIN, 0)", x.value(MIN, 0), -2);
        CHECK.due("value(MAX, 0)", x.value(MAX, 0), -2);
    }

    private static void shiftSmall() {
        SeriesSuite x = new SeriesSuite();
        x.set(0, 3, 1);
        CHECK.due("shift(0, 2)", x.shift(0, 2), true);
        CHECK.dueSeries("shift(0, 2)", x, 0, 8, 12, 6, 1);
        CHECK.due("shift(0, -2)", x.shift(0, -2), true);
        CHECK.dueSeries("shift(0, -2)", x, 0, 0, 0, 0, 1);
        CHECK.due("shift(0, 12289)", x.shift(0, 12289), true);
        CHECK.dueSeries("shift(0, 12289)", x, 0, 0, 0, 0, 1);
        CHECK.due("shift of 0", x.shift(1, 5), true);
        CHECK.dueSeries("shift of 0", x, 1);
        x.set(4, 31, 1);
        CHECK.due("shift(4, 1)", x.shift(4, 1), true);
        CHECK.due("coefficient(4, 0)", x.coefficient(4, 0), 1);
        CHECK.due("coefficient(4, 1)", x.coefficient(4, 1), 31);
        CHECK.due("coefficient(4, 2)", x.coefficient(4, 2), 465);
        CHECK.due("coefficient(4, 30)", x.coefficient(4, 30), 31);
        CHECK.due("coefficient(4, 31)", x.coefficient(4, 31), 1);
    }

    private static void shiftMixed() {
        int[] by = {0, 1, -1, 2, 12288, 12289, -12290, 5000, MIN, MAX, 77};
        Numbers numbers = new Numbers(17);
        for (int v : by) {
            int[] a = numbers.series(31);
            SeriesSuite x = new SeriesSuite();
            Reference.write(x, 3, a);
            CHECK.due("shift(3, " + v + ")", x.shift(3, v), true);
            int[] shifted = Reference.read(x, 3);
            // Polynomials of degree 31 at most that have the same values at 32 points are the same.
            for (int y = -16; y < 24; y++) {
                int want = Reference.value(a, (long) y + v);
                CHECK.due("value at " + y + " after shift(3, " + v + ")", Reference.value(shifted, y), want);
            }
        }
    }

    private static void shiftRefused() {
        SeriesSuite x = new SeriesSuite();
        x.fill(0, 0, 2, 3);
        x.fill(4, 0, 2, 3);
        int[] before = Reference.read(x, 0);
        CHECK.due("shift(5, 1)", x.shift(5, 1), false);
        CHECK.due("shift(-1, 1)", x.shift(-1, 1), false);
        CHECK.due("shift(MIN, 1)", x.shift(MIN, 1), false);
        CHECK.due("shift(MAX, 1)", x.shift(MAX, 1), false);
        CHECK.dueSeries("shift refused", x, 0, before);
        CHECK.dueSeries("shift refused", x, 4, before);
    }
}
