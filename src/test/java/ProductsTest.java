/** Promises 8 to 10: multiply, agree and cross. */
public final class ProductsTest {
    private static final int MIN = Integer.MIN_VALUE;
    private static final int MAX = Integer.MAX_VALUE;
    private static final Check CHECK = new Check();

    public static void main(String[] args) {
        for (int engine = 0; engine < 5; engine++) {
            multiplySmall(engine);
            multiplyOneTerms(engine);
            multiplyMixed(engine);
            multiplyItself(engine);
        }
        multiplyRefused();
        agree();
        agreeRefused();
        crossSmall();
        crossMixed();
        crossRefused();
        CHECK.finish();
    }

    private static void multiplySmall(int engine) {
        SeriesSuite x = new SeriesSuite();
        Reference.write(x, 0, 1, 2, 3);
        Reference.write(x, 1, 4, 5);
        String call = "multiply(" + engine + ", 0, 1)";
        CHECK.due(call, x.multiply(engine, 0, 1), true);
        CHECK.dueSeries(call, x, 0, 4, 13, 22, 15);
        CHECK.dueSeries(call, x, 1, 4, 5);
        x.fill(2, 0, 0, 0);
        CHECK.due("multiply by 0", x.multiply(engine, 0, 2), true);
        CHECK.dueSeries("multiply by 0", x, 0);
    }

    /** One term times one term: every pair of powers, also those whose product is left out. */
    private static void multiplyOneTerms(int engine) {
        for (int i = 0; i < 32; i++) {
            for (int j = 0; j < 32; j++) {
                SeriesSuite x = new SeriesSuite();
                x.set(3, i, 12288);
                x.set(4, j, 12287);
                String call = "power " + i + " times power " + j + " by engine " + engine;
                CHECK.due(call, x.multiply(engine, 3, 4), true);
                int[] want = new int[32];
                if (i + j < 32) {
                    want[i + j] = 2;
                }
                CHECK.dueSeries(call, x, 3, want);
            }
        }
    }

    private static void multiplyMixed(int engine) {
        Numbers numbers = new Numbers(100 + engine);
        for (int round = 0; round < 200; round++) {
            SeriesSuite x = new SeriesSuite();
            int[] a = round == 0 ? full() : numbers.series(numbers.below(33) - 1);
            int[] b = round < 2 ? full() : numbers.series(31 - numbers.below(8));
            Reference.write(x, 2, a);
            Reference.write(x, 0, b);
            String call = "multiply(" + engine + ", 2, 0) in round " + round;
            CHECK.due(call, x.multiply(engine, 2, 0), true);
            CHECK.dueSeries(call, x, 2, Reference.product(a, b));
            CHECK.dueSeries(call, x, 0, b);
            // A second time, so that what the first product left behind would show.
            CHECK.due(call, x.multiply(engine, 0, 0), true);
            CHECK.dueSeries(call, x, 0, Reference.product(b, b));
        }
    }

    private static int[] full() {
        int[] a = new int[32];
        java.util.Arrays.fill(a, 12288);
        return a;
    }

    private static void multiplyItself(int engine) {
        SeriesSuite x = new SeriesSuite();
        x.fill(1, 0, 1, 1);
        String call = "multiply(" + engine + ", 1, 1)";
        CHECK.due(call, x.multiply(engine, 1, 1), true);
        for (int n = 0; n < 32; n++) {
            CHECK.due(call + ", then coefficient(1, " + n + ")", x.coefficient(1, n), n + 1);
        }
    }

    private static void multiplyRefused() {
        SeriesSuite x = new SeriesSuite();
        x.fill(0, 0, 2, 3);
        int[] before = Reference.read(x, 0);
        int[] engines = {-1, 5, MIN, MAX, 0, 0, 4, 4, 2};
        int[] first = {0, 0, 0, 0, -1, 5, 0, 0, MIN};
        int[] second = {0, 0, 0, 0, 0, 0, -1, 5, MAX};
        for (int k = 0; k < engines.length; k++) {
            String call = "multiply(" + engines[k] + ", " + first[k] + ", " + second[k] + ")";
            CHECK.due(call, x.multiply(engines[k], first[k], second[k]), false);
            CHECK.dueSeries(call, x, 0, before);
        }
    }

    private static void agree() {
        Numbers numbers = new Numbers(9);
        for (int engine = 0; engine < 5; engine++) {
            for (int other = 0; other < 5; other++) {
                SeriesSuite x = new SeriesSuite();
                int[] a = numbers.series(31);
                int[] b = numbers.series(30);
                Reference.write(x, 1, a);
                Reference.write(x, 4, b);
                String call = "agree(" + engine + ", " + other + ", s, t)";
                CHECK.due(call, x.agree(engine, other, 1, 4), true);
                CHECK.due(call, x.agree(engine, other, 4, 4), true);
                CHECK.due(call, x.agree(engine, other, 0, 1), true);
                CHECK.dueSeries(call, x, 0);
                CHECK.dueSeries(call, x, 1, a);
                CHECK.dueSeries(call, x, 4, b);
            }
        }
    }

    private static void agreeRefused() {
        SeriesSuite x = new SeriesSuite();
        CHECK.due("agree(-1, 0, 0, 0)", x.agree(-1, 0, 0, 0), false);
        CHECK.due("agree(5, 0, 0, 0)", x.agree(5, 0, 0, 0), false);
        CHECK.due("agree(0, -1, 0, 0)", x.agree(0, -1, 0, 0), false);
        CHECK.due("agree(0, 5, 0, 0)", x.agree(0, 5, 0, 0), false);
        CHECK.due("agree(0, 0, -1, 0)", x.agree(0, 0, -1, 0), false);
        CHECK.due("agree(0, 0, 5, 0)", x.agree(0, 0, 5, 0), false);
        CHECK.due("agree(0, 0, 0, -1)", x.agree(0, 0, 0, -1), false);
        CHECK.due("agree(0, 0, 0, 5)", x.agree(0, 0, 0, 5), false);
        CHECK.due("agree(5, 5, 0, 0)", x.agree(5, 5, 0, 0), false);
        CHECK.due("agree(MIN, MAX, MIN, MAX)", x.agree(MIN, MAX, MIN, MAX), false);
    }

    private static void crossSmall() {
        SeriesSuite x = new SeriesSuite();
        // 5 and 6 share a bit, which goes when they are put together without carrying: 3.
        x.set(0, 5, 10);
        x.set(1, 6, 20);
        CHECK.due("cross(0, 1)", x.cross(0, 1), true);
        CHECK.dueSeries("cross(0, 1)", x, 0, 0, 0, 0, 200);
        // A power with itself comes to 0.
        x.set(2, 31, -3);
        CHECK.due("cross(2, 2)", x.cross(2, 2), true);
        CHECK.dueSeries("cross(2, 2)", x, 2, 9);
        Reference.write(x, 3, 1, 2, 3);
        Reference.write(x, 4, 4, 5);
        CHECK.due("cross(3, 4)", x.cross(3, 4), true);
        CHECK.dueSeries("cross(3, 4)", x, 3, 14, 13, 12, 15);
        CHECK.dueSeries("cross(3, 4)", x, 4, 4, 5);
    }

    private static void crossMixed() {
        Numbers numbers = new Numbers(10);
        for (int round = 0; round < 100; round++) {
            SeriesSuite x = new SeriesSuite();
            int[] a = round == 0 ? full() : numbers.series(31);
            int[] b = round == 0 ? full() : numbers.series(numbers.below(33) - 1);
            Reference.write(x, 4, a);
            Reference.write(x, 0, b);
            CHECK.due("cross(4, 0)", x.cross(4, 0), true);
            CHECK.dueSeries("cross(4, 0)", x, 4, Reference.cross(a, b));
            CHECK.dueSeries("cross(4, 0)", x, 0, b);
            CHECK.due("cross(0, 0)", x.cross(0, 0), true);
            CHECK.dueSeries("cross(0, 0)", x, 0, Reference.cross(b, b));
        }
    }

    private static void crossRefused() {
        SeriesSuite x = new SeriesSuite();
        x.fill(0, 0, 2, 3);
        int[] before = Reference.read(x, 0);
        CHECK.due("cross(0, 5)", x.cross(0, 5), false);
        CHECK.due("cross(0, -1)", x.cross(0, -1), false);
        CHECK.due("cross(5, 0)", x.cross(5, 0), false);
        CHECK.due("cross(-1, 0)", x.cross(-1, 0), false);
        CHECK.due("cross(MIN, MAX)", x.cross(MIN, MAX), false);
        CHECK.dueSeries("cross out of range", x, 0, before);
    }
}
