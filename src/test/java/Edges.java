import java.util.Arrays;

/** The numbers and series at which the document's sentences end. */
final class Edges {
    private static final int MIN = Integer.MIN_VALUE;
    private static final int MAX = Integer.MAX_VALUE;

    /** The greatest and the smallest multiple of P among the ints. */
    private static final int HIGH = MAX / 12289 * 12289;
    private static final int LOW = MIN / 12289 * 12289;

    static final int[] ANY_INT = {0, 1, -1, 2, -2, 12287, 12288, 12289, 12290, -12287, -12288, -12289, -12290,
        24577, 24578, -24578, -24579, 65535, 65536, 1 << 30, -(1 << 30), HIGH - 1, HIGH, HIGH + 1, LOW - 1, LOW, LOW + 1,
        MAX, MAX - 1, MIN, MIN + 1};

    /** Below and above; 1 << 27 and its like, times 32, wrap around to numbers that look fine. */
    static final int[] NO_SERIES = {-1, -2, -5, -32, -(1 << 27), 1 - (1 << 27), MIN, MIN + 1,
        5, 6, 8, 31, 32, 160, 1 << 27, 1 + (1 << 27), MAX};

    static final int[] NO_PLACE = {-1, -2, -31, -32, -33, -128, MIN, MIN + 1, 32, 33, 63, 64, 127, 128, 159, 160, MAX};

    static final int[] NO_ENGINE = {-1, -2, -5, MIN, 5, 6, 8, 256, MAX};

    private Edges() {
    }

    static int[] all(int v) {
        int[] a = new int[32];
        Arrays.fill(a, v);
        return a;
    }

    /** The one-term series v * (power n). */
    static int[] term(int n, int v) {
        int[] a = new int[32];
        a[n] = v;
        return a;
    }

    static int[] withFirst(int first, int[] a) {
        int[] c = a.clone();
        c[0] = first;
        return c;
    }

    /** Empty, full, of the least and the greatest degree, of the least and the greatest numbers. */
    static int[][] series() {
        int[] alternating = new int[32];
        int[] hollow = new int[32];
        for (int n = 0; n < 32; n++) {
            alternating[n] = n % 2 == 0 ? 1 : 12288;
            hollow[n] = n % 16 == 0 || n == 31 ? 12288 : 0;
        }
        Numbers numbers = new Numbers(3);
        return new int[][] {
            new int[32], term(0, 1), term(0, 2), term(0, 12288), term(1, 1), term(1, 12288), term(15, 1), term(16, 1),
            term(16, 12288), term(30, 5), term(31, 1), term(31, 12288), withFirst(1, term(31, 1)), withFirst(1, term(1, 12288)),
            withFirst(12288, term(1, 1)), all(1), all(12288), withFirst(0, all(12288)), withFirst(1, all(12288)),
            alternating, hollow, numbers.series(30), numbers.series(31)};
    }
}
