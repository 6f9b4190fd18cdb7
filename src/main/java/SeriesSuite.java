/** Series of 32 coefficients modulo 12289, multiplied by any of five engines that find the same product. */
public final class SeriesSuite {
    public static final int BAD = -2;

    private static final int P = 12289;
    private static final int SERIES = 5;
    private static final int SIZE = 32;
    private static final int CELLS = 160;
    private static final int HALF = 6145;

    private static final int BY_COLUMNS = 0;
    private static final int BY_KARATSUBA = 1;
    private static final int BY_TRANSFORM = 2;
    private static final int BY_POINTS = 3;
    private static final int BY_BIG_NUMBERS = 4;
    private static final int ENGINES = 5;

    // 3 to the power of 5: each of the five bits of a coefficient's number becomes a digit 0, 1 or 2.
    private static final int PIECES = 243;

    // The whole product has 63 coefficients, so 64 points keep the cyclic product from wrapping.
    private static final int WIDE = 64;
    private static final int LEVELS = 6;
    private static final int WIDE_INVERSE = 12097;
    // ROOT has the order 64 modulo P.
    private static final int ROOT = 7311;
    private static final int ROOT_INVERSE = 9650;

    private static final int POINTS = 63;

    // A coefficient of the product before reduction is below 2 to the power of 33: three limbs of 12 bits hold it.
    private static final int LIMBS = 96;
    private static final int LIMBS_EACH = 3;
    private static final int LIMB_BITS = 12;
    private static final int LIMB_MASK = 4095;

    private final int[] coefficients = new int[CELLS];

    // Copies of the operands, so that a series can be its own other operand.
    private final int[] left = new int[SIZE];
    private final int[] right = new int[SIZE];
    private final int[] result = new int[SIZE];
    private final int[] otherResult = new int[SIZE];
    private final int[] slopes = new int[SIZE];

    private final int[] leftPieces = new int[PIECES];
    private final int[] rightPieces = new int[PIECES];
    private final int[] leftWide = new int[WIDE];
    private final int[] rightWide = new int[WIDE];
    private final int[] points = new int[POINTS];
    private final int[] leftLimbs = new int[LIMBS];
    private final int[] rightLimbs = new int[LIMBS];
    private final int[] productLimbs = new int[LIMBS];

    public SeriesSuite() {
    }

    public boolean set(int s, int i, int v) {
        if (!isSeries(s) || !isPlace(i)) {
            return false;
        }
        coefficients[s * SIZE + i] = reduce(v);
        return true;
    }

    public boolean fill(int s, int i, int v, int w) {
        if (!isSeries(s) || !isPlace(i)) {
            return false;
        }
        int term = reduce(v);
        int ratio = reduce(w);
        for (int n = i; n < SIZE; n++) {
            coefficients[s * SIZE + n] = term;
            term = term * ratio % P;
        }
        return true;
    }

    public int coefficient(int s, int i) {
        if (!isSeries(s) || !isPlace(i)) {
            return BAD;
        }
        return coefficients[s * SIZE + i];
    }

    public int degree(int s) {
        if (!isSeries(s)) {
            return BAD;
        }
        load(s, left);
        return lastNonZero(left);
    }

    public boolean copy(int s, int t) {
        if (!isSeries(s) || !isSeries(t)) {
            return false;
        }
        load(t, left);
        store(left, s);
        return true;
    }

    public boolean add(int s, int t, int v) {
        if (!isSeries(s) || !isSeries(t)) {
            return false;
        }
        int factor = reduce(v);
        for (int n = 0; n < SIZE; n++) {
            int at = s * SIZE + n;
            coefficients[at] = (coefficients[at] + factor * coefficients[t * SIZE + n]) % P;
        }
        return true;
    }

    public boolean multiply(int engine, int s, int t) {
        if (!isEngine(engine) || !isSeries(s) || !isSeries(t)) {
            return false;
        }
        load(s, left);
        load(t, right);
        findProduct(engine, result);
        store(result, s);
        return true;
    }

    public boolean agree(int engine, int other, int s, int t) {
        if (!isEngine(engine) || !isEngine(other) || !isSeries(s) || !isSeries(t)) {
            return false;
        }
        load(s, left);
        load(t, right);
        findProduct(engine, result);
        findProduct(other, otherResult);
        for (int n = 0; n < SIZE; n++) {
            if (result[n] != otherResult[n]) {
                return false;
            }
        }
        return true;
    }

    public boolean cross(int s, int t) {
        if (!isSeries(s) || !isSeries(t)) {
            return false;
        }
        load(s, left);
        load(t, right);
        for (int n = 0; n < SIZE; n++) {
            long sum = 0;
            for (int i = 0; i < SIZE; i++) {
                sum += left[i] * right[n ^ i];
            }
            result[n] = reduce(sum);
        }
        store(result, s);
        return true;
    }

    public boolean invert(int s) {
        if (!isSeries(s) || coefficients[s * SIZE] == 0) {
            return false;
        }
        load(s, left);
        int first = inverse(left[0]);
        result[0] = first;
        for (int n = 1; n < SIZE; n++) {
            int sum = sumOfProducts(left, result, n, 1, n);
            result[n] = reduce(-sum * first);
        }
        store(result, s);
        return true;
    }

    public boolean rest(int s, int t) {
        if (!isSeries(s) || !isSeries(t)) {
            return false;
        }
        load(s, left);
        load(t, right);
        int divisorDegree = lastNonZero(right);
        if (divisorDegree < 0) {
            return false;
        }
        int lead = inverse(right[divisorDegree]);
        for (int low = SIZE - 1 - divisorDegree; low >= 0; low--) {
            int quotient = left[low + divisorDegree] * lead % P;
            for (int i = 0; i <= divisorDegree; i++) {
                left[low + i] = reduce(left[low + i] - quotient * right[i]);
            }
        }
        store(left, s);
        return true;
    }

    public boolean log(int s) {
        if (!isSeries(s) || coefficients[s * SIZE] != 1) {
            return false;
        }
        load(s, left);
        result[0] = 0;
        for (int n = 1; n < SIZE; n++) {
            int sum = sumOfProducts(slopes, left, n, 1, n - 1);
            slopes[n] = reduce(n * left[n] - sum);
            result[n] = slopes[n] * inverse(n) % P;
        }
        store(result, s);
        return true;
    }

    public boolean exp(int s) {
        if (!isSeries(s) || coefficients[s * SIZE] != 0) {
            return false;
        }
        load(s, left);
        result[0] = 1;
        for (int n = 1; n < SIZE; n++) {
            slopes[n] = n * left[n] % P;
            int sum = sumOfProducts(slopes, result, n, 1, n);
            result[n] = sum * inverse(n) % P;
        }
        store(result, s);
        return true;
    }

    public boolean root(int s) {
        if (!isSeries(s) || coefficients[s * SIZE] != 1) {
            return false;
        }
        load(s, left);
        result[0] = 1;
        for (int n = 1; n < SIZE; n++) {
            int sum = sumOfProducts(result, result, n, 1, n - 1);
            result[n] = reduce((left[n] - sum) * HALF);
        }
        store(result, s);
        return true;
    }

    public int value(int s, int x) {
        if (!isSeries(s)) {
            return BAD;
        }
        load(s, left);
        int point = reduce(x);
        return valueAt(left, point);
    }

    public boolean shift(int s, int x) {
        if (!isSeries(s)) {
            return false;
        }
        load(s, left);
        int by = reduce(x);
        // Each round divides what is left by (y - x); the remainders are the new coefficients.
        for (int low = 0; low < SIZE - 1; low++) {
            for (int n = SIZE - 2; n >= low; n--) {
                left[n] = (left[n] + by * left[n + 1]) % P;
            }
        }
        store(left, s);
        return true;
    }

    private static boolean isSeries(int s) {
        return s >= 0 && s < SERIES;
    }

    private static boolean isPlace(int i) {
        return i >= 0 && i < SIZE;
    }

    private static boolean isEngine(int engine) {
        return engine >= 0 && engine < ENGINES;
    }

    private static int reduce(long v) {
        int r = (int) (v % P);
        return r < 0 ? r + P : r;
    }

    // P is a prime, so the power P - 2 of a number other than 0 is its inverse.
    private static int inverse(int a) {
        return power(a, P - 2);
    }

    private static int power(int a, int exponent) {
        int answer = 1;
        int square = a;
        for (int e = exponent; e > 0; e >>= 1) {
            if ((e & 1) == 1) {
                answer = answer * square % P;
            }
            square = square * square % P;
        }
        return answer;
    }

    private void load(int s, int[] into) {
        for (int n = 0; n < SIZE; n++) {
            into[n] = coefficients[s * SIZE + n];
        }
    }

    private void store(int[] from, int s) {
        for (int n = 0; n < SIZE; n++) {
            coefficients[s * SIZE + n] = from[n];
        }
    }

    private static int lastNonZero(int[] a) {
        for (int n = SIZE - 1; n >= 0; n--) {
            if (a[n] != 0) {
                return n;
            }
        }
        return -1;
    }

    private static int valueAt(int[] a, int x) {
        int sum = 0;
        for (int n = SIZE - 1; n >= 0; n--) {
            sum = (sum * x + a[n]) % P;
        }
        return sum;
    }

    private static int sumOfProducts(int[] a, int[] b, int n, int first, int last) {
        long sum = 0;
        for (int i = first; i <= last; i++) {
            sum += a[i] * b[n - i];
        }
        return reduce(sum);
    }

    // The product of left and right, by the engine asked for.
    private void findProduct(int engine, int[] into) {
        switch (engine) {
            case BY_COLUMNS:
                multiplyByColumns(into);
                break;
            case BY_KARATSUBA:
                multiplyByKaratsuba(into);
                break;
            case BY_TRANSFORM:
                multiplyByTransform(into);
                break;
            case BY_POINTS:
                multiplyByPoints(into);
                break;
            case BY_BIG_NUMBERS:
                multiplyByBigNumbers(into);
                break;
            default:
                break;
        }
    }

    private void multiplyByColumns(int[] into) {
        for (int n = 0; n < SIZE; n++) {
            into[n] = sumOfProducts(left, right, n, 0, n);
        }
    }

    // Karatsuba's halving, all five levels at once: digit 0 of a piece's number stands for
    // the low half at that level, 1 for the high half, 2 for the sum of both.
    private void multiplyByKaratsuba(int[] into) {
        spreadPieces(left, leftPieces);
        spreadPieces(right, rightPieces);
        for (int at = 0; at < PIECES; at++) {
            leftPieces[at] = leftPieces[at] * rightPieces[at] % P;
        }
        separateMiddles(leftPieces);
        for (int n = 0; n < SIZE; n++) {
            into[n] = 0;
        }
        for (int at = 0; at < PIECES; at++) {
            int n = powerOfPiece(at);
            if (n < SIZE) {
                into[n] = (into[n] + leftPieces[at]) % P;
            }
        }
    }

    private static void spreadPieces(int[] from, int[] pieces) {
        for (int n = 0; n < SIZE; n++) {
            int at = pieceOfPlace(n);
            pieces[at] = from[n];
        }
        for (int step = 1; step < PIECES; step *= 3) {
            for (int at = 0; at < PIECES; at++) {
                if (at / step % 3 == 2) {
                    pieces[at] = (pieces[at - step] + pieces[at - 2 * step]) % P;
                }
            }
        }
    }

    // The product of the sums, less both other products, is what belongs between them.
    private static void separateMiddles(int[] pieces) {
        for (int step = 1; step < PIECES; step *= 3) {
            for (int at = 0; at < PIECES; at++) {
                if (at / step % 3 == 2) {
                    pieces[at] = reduce(pieces[at] - pieces[at - step] - pieces[at - 2 * step]);
                }
            }
        }
    }

    private static int pieceOfPlace(int n) {
        int at = 0;
        int step = 1;
        for (int bit = 1; bit < SIZE; bit *= 2) {
            if ((n & bit) != 0) {
                at += step;
            }
            step *= 3;
        }
        return at;
    }

    private static int powerOfPiece(int at) {
        int n = 0;
        int bit = 1;
        for (int step = 1; step < PIECES; step *= 3) {
            int digit = at / step % 3;
            // High times high counts twice, the middle once.
            if (digit == 1) {
                n += 2 * bit;
            } else if (digit == 2) {
                n += bit;
            }
            bit *= 2;
        }
        return n;
    }

    private void multiplyByTransform(int[] into) {
        widen(left, leftWide);
        widen(right, rightWide);
        transform(leftWide);
        transform(rightWide);
        for (int n = 0; n < WIDE; n++) {
            leftWide[n] = leftWide[n] * rightWide[n] % P;
        }
        transformBack(leftWide);
        for (int n = 0; n < SIZE; n++) {
            into[n] = leftWide[n] * WIDE_INVERSE % P;
        }
    }

    private static void widen(int[] from, int[] into) {
        for (int n = 0; n < SIZE; n++) {
            into[n] = from[n];
            into[n + SIZE] = 0;
        }
    }

    // Leaves the values in bit-reversed order: the way back takes them so, and their product doesn't mind.
    private static void transform(int[] a) {
        for (int level = 0; level < LEVELS; level++) {
            int half = SIZE >> level;
            int root = power(ROOT, 1 << level);
            for (int block = 0; block < 1 << level; block++) {
                partHalves(a, block * 2 * half, half, root);
            }
        }
    }

    private static void transformBack(int[] a) {
        for (int level = LEVELS - 1; level >= 0; level--) {
            int half = SIZE >> level;
            int root = power(ROOT_INVERSE, 1 << level);
            for (int block = 0; block < 1 << level; block++) {
                joinHalves(a, block * 2 * half, half, root);
            }
        }
    }

    private static void partHalves(int[] a, int start, int half, int root) {
        int twist = 1;
        for (int low = start; low < start + half; low++) {
            int sum = a[low] + a[low + half];
            int difference = a[low] - a[low + half] + P;
            a[low] = sum % P;
            a[low + half] = difference * twist % P;
            twist = twist * root % P;
        }
    }

    private static void joinHalves(int[] a, int start, int half, int root) {
        int twist = 1;
        for (int low = start; low < start + half; low++) {
            int turned = a[low + half] * twist % P;
            int difference = a[low] - turned + P;
            a[low] = (a[low] + turned) % P;
            a[low + half] = difference % P;
            twist = twist * root % P;
        }
    }

    // The values of the product at 0 .. 62 fix its 63 coefficients.
    private void multiplyByPoints(int[] into) {
        for (int x = 0; x < POINTS; x++) {
            int leftValue = valueAt(left, x);
            int rightValue = valueAt(right, x);
            points[x] = leftValue * rightValue % P;
        }
        divideDifferences();
        expandNewton(into);
    }

    // Newton's divided differences; points that are k apart differ by k itself.
    private void divideDifferences() {
        for (int k = 1; k < POINTS; k++) {
            int share = inverse(k);
            for (int x = POINTS - 1; x >= k; x--) {
                points[x] = reduce((points[x] - points[x - 1]) * share);
            }
        }
    }

    // Multiplying by (y - k) moves nothing downwards, so the powers from 32 on can be left out throughout.
    private void expandNewton(int[] into) {
        for (int n = 0; n < SIZE; n++) {
            into[n] = 0;
        }
        for (int k = POINTS - 1; k >= 0; k--) {
            for (int n = SIZE - 1; n > 0; n--) {
                into[n] = reduce(into[n - 1] - k * into[n]);
            }
            into[0] = reduce(points[k] - k * into[0]);
        }
    }

    // Kronecker's way: each series is written as one big number, with room enough
    // for each coefficient of the product that none carries into the next.
    private void multiplyByBigNumbers(int[] into) {
        writeLimbs(left, leftLimbs);
        writeLimbs(right, rightLimbs);
        multiplyLimbs();
        for (int n = 0; n < SIZE; n++) {
            long whole = 0;
            for (int part = LIMBS_EACH - 1; part >= 0; part--) {
                whole = (whole << LIMB_BITS) + productLimbs[n * LIMBS_EACH + part];
            }
            into[n] = reduce(whole);
        }
    }

    private static void writeLimbs(int[] from, int[] limbs) {
        for (int n = 0; n < SIZE; n++) {
            int remaining = from[n];
            for (int part = 0; part < LIMBS_EACH; part++) {
                limbs[n * LIMBS_EACH + part] = remaining & LIMB_MASK;
                remaining >>= LIMB_BITS;
            }
        }
    }

    private void multiplyLimbs() {
        long carry = 0;
        for (int n = 0; n < LIMBS; n++) {
            long sum = carry;
            for (int i = 0; i <= n; i++) {
                sum += leftLimbs[i] * rightLimbs[n - i];
            }
            productLimbs[n] = (int) (sum & LIMB_MASK);
            carry = sum >> LIMB_BITS;
        }
    }
}
