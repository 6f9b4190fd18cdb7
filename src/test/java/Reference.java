import java.math.BigInteger;

/** The document's terms, said again as plainly as can be, to compare the program with. */
final class Reference {
    static final int P = 12289;
    private static final BigInteger BIG_P = BigInteger.valueOf(P);

    private Reference() {
    }

    static int mod(BigInteger v) {
        return v.mod(BIG_P).intValueExact();
    }

    static int mod(long v) {
        return mod(BigInteger.valueOf(v));
    }

    static int[] read(SeriesSuite x, int s) {
        int[] a = new int[32];
        for (int i = 0; i < 32; i++) {
            a[i] = x.coefficient(s, i);
        }
        return a;
    }

    static void write(SeriesSuite x, int s, int... a) {
        for (int i = 0; i < 32; i++) {
            x.set(s, i, i < a.length ? a[i] : 0);
        }
    }

    static int[] product(int[] a, int[] b) {
        int[] c = new int[32];
        for (int i = 0; i < 32; i++) {
            for (int j = 0; i + j < 32; j++) {
                c[i + j] = mod(c[i + j] + (long) a[i] * b[j]);
            }
        }
        return c;
    }

    static int[] sum(int[] a, int[] b, int v) {
        int[] c = new int[32];
        for (int i = 0; i < 32; i++) {
            c[i] = mod(a[i] + (long) v * b[i]);
        }
        return c;
    }

    static int[] cross(int[] a, int[] b) {
        int[] c = new int[32];
        for (int i = 0; i < 32; i++) {
            for (int j = 0; j < 32; j++) {
                // Adding without carrying: a bit stands where just one of the two has it.
                int n = (i | j) - (i & j);
                c[n] = mod(c[n] + (long) a[i] * b[j]);
            }
        }
        return c;
    }

    static int[] derivative(int[] a) {
        int[] c = new int[32];
        for (int n = 0; n < 31; n++) {
            c[n] = mod((n + 1L) * a[n + 1]);
        }
        return c;
    }

    static int degree(int[] a) {
        int last = -1;
        for (int i = 0; i < 32; i++) {
            if (a[i] != 0) {
                last = i;
            }
        }
        return last;
    }

    static int value(int[] a, long x) {
        BigInteger sum = BigInteger.ZERO;
        for (int i = 0; i < 32; i++) {
            sum = sum.add(BigInteger.valueOf(a[i]).multiply(BigInteger.valueOf(x).pow(i)));
        }
        return mod(sum);
    }

    static int inverse(long v) {
        return BigInteger.valueOf(v).modInverse(BIG_P).intValueExact();
    }

    static int[] scaled(int[] a, long v) {
        int[] c = new int[32];
        for (int i = 0; i < 32; i++) {
            c[i] = mod(a[i] * v);
        }
        return c;
    }

    /** 1 / (f - g) for the number f is the sum of g's powers k divided by f's powers k + 1. */
    static int[] invert(int[] a) {
        int scale = inverse(a[0]);
        int[] g = scaled(a, -scale);
        g[0] = 0;
        int[] power = new int[32];
        power[0] = scale;
        int[] sum = new int[32];
        for (int k = 0; k < 32; k++) {
            sum = sum(sum, power, 1);
            power = product(power, g);
        }
        return sum;
    }

    /** The integral of the derivative divided by the series. */
    static int[] log(int[] a) {
        int[] slope = product(derivative(a), invert(a));
        int[] c = new int[32];
        for (int n = 1; n < 32; n++) {
            c[n] = mod((long) slope[n - 1] * inverse(n));
        }
        return c;
    }

    /** The sum of the powers, each divided by its factorial. */
    static int[] exp(int[] a) {
        int[] term = new int[32];
        term[0] = 1;
        int[] sum = new int[32];
        for (int k = 1; k <= 32; k++) {
            sum = sum(sum, term, 1);
            term = scaled(product(term, a), inverse(k));
        }
        return sum;
    }

    static int[] root(int[] a) {
        return exp(scaled(log(a), inverse(2)));
    }

    static int[] rest(int[] a, int[] b) {
        int[] left = a.clone();
        int high = degree(b);
        for (int d = degree(left); d >= high; d = degree(left)) {
            int[] part = new int[32];
            part[d - high] = mod((long) left[d] * inverse(b[high]));
            left = sum(left, product(part, b), -1);
        }
        return left;
    }

    /** By the binomial theorem. */
    static int[] shift(int[] a, int x) {
        BigInteger by = BigInteger.valueOf(x);
        int[] c = new int[32];
        for (int i = 0; i < 32; i++) {
            BigInteger choose = BigInteger.ONE;
            for (int j = 0; j <= i; j++) {
                BigInteger part = choose.multiply(by.pow(i - j)).multiply(BigInteger.valueOf(a[i]));
                c[j] = mod(part.add(BigInteger.valueOf(c[j])));
                choose = choose.multiply(BigInteger.valueOf(i - j)).divide(BigInteger.valueOf(j + 1));
            }
        }
        return c;
    }
}
