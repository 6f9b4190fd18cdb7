/** Promises 1 to 7: a new object, set, fill, coefficient, degree, copy and add. */
public final class CoefficientsTest {
    private static final int MIN = Integer.MIN_VALUE;
    private static final int MAX = Integer.MAX_VALUE;
    private static final Check CHECK = new Check();

    public static void main(String[] args) {
        newObject();
        set();
        fill();
        coefficient();
        degree();
        copy();
        add();
        CHECK.finish();
    }

    private static void newObject() {
        SeriesSuite x = new SeriesSuite();
        for (int s = 0; s < 5; s++) {
            CHECK.dueSeries("new SeriesSuite()", x, s);
        }
        x.fill(0, 0, 1, 1);
        CHECK.due("coefficient(0, 0) of another object", new SeriesSuite().coefficient(0, 0), 0);
    }

    private static void set() {
        int[] values = {0, 1, 12288, 12289, 12290, -1, -12288, -12289, -12290, 24578, 100000, -100000, MIN, MAX};
        int[] want = {0, 1, 12288, 0, 1, 12288, 1, 0, 12288, 0, 1688, 10601, 6813, 5475};
        for (int k = 0; k < values.length; k++) {
            for (int s = 0; s < 5; s++) {
                SeriesSuite x = new SeriesSuite();
                String call = "set(" + s + ", " + k + ", " + values[k] + ")";
                CHECK.due(call, x.set(s, k, values[k]), true);
                int[] whole = new int[32];
                whole[k] = want[k];
                CHECK.dueSeries(call, x, s, whole);
                CHECK.dueSeries(call, x, (s + 1) % 5);
            }
        }
        SeriesSuite x = new SeriesSuite();
        CHECK.due("set(4, 31, 7)", x.set(4, 31, 7), true);
        CHECK.due("coefficient(4, 31)", x.coefficient(4, 31), 7);
        CHECK.due("set(4, 31, 8)", x.set(4, 31, 8), true);
        CHECK.due("coefficient(4, 31)", x.coefficient(4, 31), 8);
        CHECK.due("set(5, 0, 1)", x.set(5, 0, 1), false);
        CHECK.due("set(-1, 31, 1)", x.set(-1, 31, 1), false);
        CHECK.due("set(0, 32, 1)", x.set(0, 32, 1), false);
        CHECK.due("set(1, -1, 1)", x.set(1, -1, 1), false);
        CHECK.due("set(MIN, MAX, 1)", x.set(MIN, MAX, 1), false);
        CHECK.dueSeries("set out of range", x, 0);
        CHECK.dueSeries("set out of range", x, 1);
    }

    private static void fill() {
        SeriesSuite x = new SeriesSuite();
        x.set(0, 27, 99);
        CHECK.due("fill(0, 28, 3, 5)", x.fill(0, 28, 3, 5), true);
        CHECK.due("coefficient(0, 27)", x.coefficient(0, 27), 99);
        CHECK.due("coefficient(0, 28)", x.coefficient(0, 28), 3);
        CHECK.due("coefficient(0, 29)", x.coefficient(0, 29), 15);
        CHECK.due("coefficient(0, 30)", x.coefficient(0, 30), 75);
        CHECK.due("coefficient(0, 31)", x.coefficient(0, 31), 375);
        CHECK.due("fill(0, 29, 4, 0)", x.fill(0, 29, 4, 0), true);
        CHECK.due("coefficient(0, 28)", x.coefficient(0, 28), 3);
        CHECK.due("coefficient(0, 29)", x.coefficient(0, 29), 4);
        CHECK.due("coefficient(0, 30)", x.coefficient(0, 30), 0);
        CHECK.due("coefficient(0, 31)", x.coefficient(0, 31), 0);
        CHECK.due("fill(4, 31, -1, 9)", x.fill(4, 31, -1, 9), true);
        CHECK.due("coefficient(4, 31)", x.coefficient(4, 31), 12288);
        CHECK.due("coefficient(4, 30)", x.coefficient(4, 30), 0);
        int[] values = {1, -1, 12289, -7, MIN, MAX};
        for (int v : values) {
            for (int w : values) {
                x = new SeriesSuite();
                CHECK.due("fill(2, 3, " + v + ", " + w + ")", x.fill(2, 3, v, w), true);
                int[] want = new int[32];
                for (int n = 3; n < 32; n++) {
                    want[n] = n == 3 ? Reference.mod(v) : Reference.mod((long) want[n - 1] * w);
                }
                CHECK.dueSeries("fill(2, 3, " + v + ", " + w + ")", x, 2, want);
            }
        }
        CHECK.due("fill(5, 0, 1, 1)", x.fill(5, 0, 1, 1), false);
        CHECK.due("fill(-1, 31, 1, 1)", x.fill(-1, 31, 1, 1), false);
        CHECK.due("fill(1, 32, 1, 1)", x.fill(1, 32, 1, 1), false);
        CHECK.due("fill(1, -1, 1, 1)", x.fill(1, -1, 1, 1), false);
        CHECK.due("fill(1, MIN, 1, 1)", x.fill(1, MIN, 1, 1), false);
        CHECK.dueSeries("fill out of range", x, 1);
    }

    private static void coefficient() {
        CHECK.due("BAD", SeriesSuite.BAD, -2);
        SeriesSuite x = new SeriesSuite();
        for (int s = 0; s < 5; s++) {
            x.fill(s, 0, s + 1, 2);
        }
        for (int s = 0; s < 5; s++) {
            for (int i = 0; i < 32; i++) {
                int want = Reference.mod((s + 1L) << i);
                CHECK.due("coefficient(" + s + ", " + i + ")", x.coefficient(s, i), want);
            }
        }
        CHECK.due("coefficient(5, 0)", x.coefficient(5, 0), -2);
        CHECK.due("coefficient(-1, 31)", x.coefficient(-1, 31), -2);
        CHECK.due("coefficient(0, 32)", x.coefficient(0, 32), -2);
        CHECK.due("coefficient(1, -1)", x.coefficient(1, -1), -2);
        CHECK.due("coefficient(MIN, MIN)", x.coefficient(MIN, MIN), -2);
        CHECK.due("coefficient(MAX, MAX)", x.coefficient(MAX, MAX), -2);
    }

    private static void degree() {
        SeriesSuite x = new SeriesSuite();
        CHECK.due("degree(0)", x.degree(0), -1);
        for (int i = 0; i < 32; i++) {
            x.set(3, i, 12288);
            CHECK.due("degree(3)", x.degree(3), i);
        }
        x.set(3, 31, 12289);
        CHECK.due("degree(3)", x.degree(3), 30);
        x.set(4, 17, 1);
        CHECK.due("degree(4)", x.degree(4), 17);
        CHECK.due("degree(5)", x.degree(5), -2);
        CHECK.due("degree(-1)", x.degree(-1), -2);
        CHECK.due("degree(MIN)", x.degree(MIN), -2);
        CHECK.due("degree(MAX)", x.degree(MAX), -2);
    }

    private static void copy() {
        SeriesSuite x = new SeriesSuite();
        x.fill(1, 0, 5, 3);
        x.fill(4, 2, 7, 11);
        int[] five = Reference.read(x, 1);
        int[] seven = Reference.read(x, 4);
        CHECK.due("copy(1, 4)", x.copy(1, 4), true);
        CHECK.dueSeries("copy(1, 4)", x, 1, seven);
        CHECK.dueSeries("copy(1, 4)", x, 4, seven);
        CHECK.due("copy(4, 4)", x.copy(4, 4), true);
        CHECK.dueSeries("copy(4, 4)", x, 4, seven);
        Reference.write(x, 4, five);
        CHECK.dueSeries("a change of series 4", x, 1, seven);
        CHECK.due("copy(0, 5)", x.copy(0, 5), false);
        CHECK.due("copy(5, 0)", x.copy(5, 0), false);
        CHECK.due("copy(1, -1)", x.copy(1, -1), false);
        CHECK.due("copy(-1, 1)", x.copy(-1, 1), false);
        CHECK.dueSeries("copy out of range", x, 1, seven);
        CHECK.dueSeries("copy out of range", x, 0);
    }

    private static void add() {
        SeriesSuite x = new SeriesSuite();
        int[] factors = {0, 1, -1, 5, 12288, 12289, -12290, MIN, MAX};
        Numbers numbers = new Numbers(7);
        for (int v : factors) {
            int[] a = numbers.series(31);
            int[] b = numbers.series(29);
            Reference.write(x, 0, a);
            Reference.write(x, 4, b);
            CHECK.due("add(0, 4, " + v + ")", x.add(0, 4, v), true);
            CHECK.dueSeries("add(0, 4, " + v + ")", x, 0, Reference.sum(a, b, v));
            CHECK.dueSeries("add(0, 4, " + v + ")", x, 4, b);
            CHECK.due("add(4, 4, " + v + ")", x.add(4, 4, v), true);
            CHECK.dueSeries("add(4, 4, " + v + ")", x, 4, Reference.sum(b, b, v));
            x = new SeriesSuite();
        }
        x.fill(1, 0, 12288, 1);
        CHECK.due("add(1, 1, -1)", x.add(1, 1, -1), true);
        CHECK.due("degree(1)", x.degree(1), -1);
        x.fill(1, 0, 12288, 1);
        CHECK.due("add(1, 5, 1)", x.add(1, 5, 1), false);
        CHECK.due("add(5, 1, 1)", x.add(5, 1, 1), false);
        CHECK.due("add(1, -1, 1)", x.add(1, -1, 1), false);
        CHECK.due("add(-1, 1, 1)", x.add(-1, 1, 1), false);
        CHECK.due("add(MIN, MAX, 0)", x.add(MIN, MAX, 0), false);
    }
}
