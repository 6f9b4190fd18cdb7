/** A fixed sequence of mixed numbers: the same in every run of the tests. */
final class Numbers {
    private static final int[] EDGES = {0, 1, -1, 2, 12288, 12289, 12290, -12289, Integer.MIN_VALUE, Integer.MAX_VALUE};
    private long state;

    Numbers(long seed) {
        state = seed;
    }

    int anyInt() {
        state = state * 6364136223846793005L + 1442695040888963407L;
        return (int) (state >>> 32);
    }

    int below(int bound) {
        return Integer.remainderUnsigned(anyInt(), bound);
    }

    int intOrEdge() {
        return below(3) == 0 ? EDGES[below(EDGES.length)] : anyInt();
    }

    /** A series of the given degree; about a third of the coefficients below it are 0 or 12288. */
    int[] series(int degree) {
        int[] a = new int[32];
        for (int i = 0; i <= degree; i++) {
            int kind = below(6);
            a[i] = kind == 0 ? 0 : kind == 1 ? 12288 : below(12289);
        }
        if (degree >= 0 && a[degree] == 0) {
            a[degree] = 1 + below(12288);
        }
        return a;
    }
}
