/** Promises 11 and 13 to 15: invert, log, exp and root, each held against the equation that it solves. */
public final class SolvedSeriesTest {
    private static final int MIN = Integer.MIN_VALUE;
    private static final int MAX = Integer.MAX_VALUE;
    private static final int ROUNDS = 200;
    private static final Check CHECK = new Check();

    public static void main(String[] args) {
        invert();
        log();
        exp();
        root();
        wayAndBack();
        CHECK.finish();
    }

    /** A full series first, then mixed ones, with the given coefficient 0. */
    private static int[] sample(Numbers numbers, int round, int first) {
        int[] a = numbers.series(round == 0 ? 31 : numbers.below(32));
        if (round == 0) {
            java.util.Arrays.fill(a, 12288);
        }
        a[0] = first;
        return a;
    }

    private static void dueUnchanged(String call, SeriesSuite x, boolean answer, int[] before) {
        CHECK.due(call, answer, false);
        CHECK.dueSeries(call, x, 2, before);
    }

    private static SeriesSuite startingWith(int first) {
        SeriesSuite x = new SeriesSuite();
        x.fill(2, 0, 3, 5);
        x.set(2, 0, first);
        return x;
    }

    private static void invert() {
        SeriesSuite x = new SeriesSuite();
        Reference.write(x, 0, 1, -1);
        CHECK.due("invert(0)", x.invert(0), true);
        int[] ones = new int[32];
        java.util.Arrays.fill(ones, 1);
        CHECK.dueSeries("invert(0)", x, 0, ones);
        x.set(4, 0, 2);
        CHECK.due("invert(4)", x.invert(4), true);
        CHECK.dueSeries("invert(4)", x, 4, 6145);
        Numbers numbers = new Numbers(11);
        for (int round = 0; round < ROUNDS; round++) {
            int[] a = sample(numbers, round, 1 + numbers.below(12288));
            Reference.write(x = new SeriesSuite(), 3, a);
            CHECK.due("invert(3)", x.invert(3), true);
            int[] product = Reference.product(a, Reference.read(x, 3));
            for (int n = 0; n < 32; n++) {
                CHECK.due("coefficient " + n + " of a series times its inverse", product[n], n == 0 ? 1 : 0);
            }
        }
        x = startingWith(0);
        int[] before = Reference.read(x, 2);
        dueUnchanged("invert with coefficient 0 equal to 0", x, x.invert(2), before);
        dueUnchanged("invert(5)", x, x.invert(5), before);
        dueUnchanged("invert(-1)", x, x.invert(-1), before);
        dueUnchanged("invert(MIN)", x, x.invert(MIN), before);
    }

    private static void log() {
        SeriesSuite x = new SeriesSuite();
        Reference.write(x, 0, 1, 1);
        CHECK.due("log(0)", x.log(0), true);
        // 0, 1, -1/2, 1/3, ..
        CHECK.due("coefficient(0, 0)", x.coefficient(0, 0), 0);
        CHECK.due("coefficient(0, 1)", x.coefficient(0, 1), 1);
        for (int n = 2; n < 32; n++) {
            int back = Reference.mod((long) x.coefficient(0, n) * n);
            CHECK.due(n + " * coefficient(0, " + n + ")", back, n % 2 == 0 ? 12288 : 1);
        }
        Numbers numbers = new Numbers(13);
        for (int round = 0; round < ROUNDS; round++) {
            int[] a = sample(numbers, round, 1);
            Reference.write(x = new SeriesSuite(), 4, a);
            CHECK.due("log(4)", x.log(4), true);
            int[] found = Reference.read(x, 4);
            CHECK.due("coefficient 0 of log", found[0], 0);
            int[] product = Reference.product(Reference.derivative(found), a);
            int[] want = Reference.derivative(a);
            for (int n = 0; n < 31; n++) {
                CHECK.due("coefficient " + n + " of log's derivative times s", product[n], want[n]);
            }
        }
        for (int first : new int[] {0, 2, 12288}) {
            x = startingWith(first);
            int[] before = Reference.read(x, 2);
            dueUnchanged("log with coefficient 0 equal to " + first, x, x.log(2), before);
            dueUnchanged("log(5)", x, x.log(5), before);
            dueUnchanged("log(-1)", x, x.log(-1), before);
            dueUnchanged("log(MAX)", x, x.log(MAX), before);
        }
        x = startingWith(12290);
        CHECK.due("log with coefficient 0 set to 12290", x.log(2), true);
    }

    private static void exp() {
        SeriesSuite x = new SeriesSuite();
        CHECK.due("exp of 0", x.exp(0), true);
        CHECK.dueSeries("exp of 0", x, 0, 1);
        x.set(1, 1, 1);
        CHECK.due("exp(1)", x.exp(1), true);
        long factorial = 1;
        for (int n = 0; n < 32; n++) {
            factorial = n == 0 ? 1 : factorial * n % Reference.P;
            int back = Reference.mod(factorial * x.coefficient(1, n));
            CHECK.due(n + "! * coefficient(1, " + n + ")", back, 1);
        }
        Numbers numbers = new Numbers(14);
        for (int round = 0; round < ROUNDS; round++) {
            int[] a = sample(numbers, round, 0);
            Reference.write(x = new SeriesSuite(), 4, a);
            CHECK.due("exp(4)", x.exp(4), true);
            int[] found = Reference.read(x, 4);
            CHECK.due("coefficient 0 of exp", found[0], 1);
            int[] product = Reference.product(found, Reference.derivative(a));
            int[] derivative = Reference.derivative(found);
            for (int n = 0; n < 31; n++) {
                CHECK.due("coefficient " + n + " of exp's derivative", derivative[n], product[n]);
            }
        }
        for (int first : new int[] {1, 2, 12288}) {
            x = startingWith(first);
            int[] before = Reference.read(x, 2);
            dueUnchanged("exp with coefficient 0 equal to " + first, x, x.exp(2), before);
            dueUnchanged("exp(5)", x, x.exp(5), before);
            dueUnchanged("exp(-1)", x, x.exp(-1), before);
            dueUnchanged("exp(MAX)", x, x.exp(MAX), before);
        }
    }

    private static void root() {
        SeriesSuite x = new SeriesSuite();
        Reference.write(x, 0, 1, 6, 9);
        CHECK.due("root(0)", x.root(0), true);
        CHECK.dueSeries("root(0)", x, 0, 1, 3);
        x.set(1, 0, 1);
        CHECK.due("root of 1", x.root(1), true);
        CHECK.dueSeries("root of 1", x, 1, 1);
        Numbers numbers = new Numbers(15);
        for (int round = 0; round < ROUNDS; round++) {
            int[] a = sample(numbers, round, 1);
            Reference.write(x = new SeriesSuite(), 4, a);
            CHECK.due("root(4)", x.root(4), true);
            int[] found = Reference.read(x, 4);
            CHECK.due("coefficient 0 of root", found[0], 1);
            Reference.write(x = new SeriesSuite(), 4, Reference.product(found, found));
            CHECK.dueSeries("the product of root with itself", x, 4, a);
        }
        for (int first : new int[] {0, 4, 12288}) {
            x = startingWith(first);
            int[] before = Reference.read(x, 2);
            dueUnchanged("root with coefficient 0 equal to " + first, x, x.root(2), before);
            dueUnchanged("root(5)", x, x.root(5), before);
            dueUnchanged("root(-1)", x, x.root(-1), before);
            dueUnchanged("root(MIN)", x, x.root(MIN), before);
        }
    }

    /** Coefficient 31 has no part in the derivatives' last coefficient, so the way back shows that it is right. */
    private static void wayAndBack() {
        Numbers numbers = new Numbers(16);
        for (int round = 0; round < ROUNDS; round++) {
            SeriesSuite x = new SeriesSuite();
            int[] a = sample(numbers, round, 1);
            Reference.write(x, 0, a);
            CHECK.due("log(0)", x.log(0), true);
            CHECK.due("exp(0)", x.exp(0), true);
            CHECK.dueSeries("exp after log", x, 0, a);
            CHECK.due("invert(0)", x.invert(0), true);
            CHECK.due("invert(0)", x.invert(0), true);
            CHECK.dueSeries("invert twice", x, 0, a);
        }
    }
}
