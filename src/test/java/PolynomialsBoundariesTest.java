/** The boundary cases that promises 12, 16 and 17 name, sentence by sentence: rest, value, shift. */
public final class PolynomialsBoundariesTest {
    private static final int P = Reference.P;
    private static final Check CHECK = new Check();

    public static void main(String[] args) {
        restHasLesserDegree();
        restByDegreeZero();
        restByDegree31();
        restOfLesserDegree();
        restOfEdges();
        restByItself();
        restByNothing();
        restOfNoSeries();
        valueAtAnyInt();
        valueOfNone();
        shiftByAnyInt();
        shiftAtEveryY();
        shiftOfNone();
        CHECK.finish();
    }

    private static int[] powersUpTo(int degree, int v) {
        int[] a = new int[32];
        for (int n = 0; n <= degree; n++) {
            a[n] = v;
        }
        return a;
    }

    private static void restHasLesserDegree() {
        CHECK.sentence("Promise 12", "the one with a degree less than that of t by which s is more than a product of t and a polynomial");
        Numbers numbers = new Numbers(121);
        for (int high = 0; high < 32; high++) {
            for (int lead : new int[] {1, 2, 12288}) {
                int[] divisor = numbers.series(high);
                divisor[high] = lead;
                int[] quotient = numbers.series(31 - high);
                int[] left = numbers.series(high - 1);
                int[] made = Reference.sum(left, Reference.product(divisor, quotient), 1);
                World w = new World(CHECK).with(3, made).with(1, divisor);
                String call = "rest by degree " + high + " and lead " + lead;
                w.taken(call, w.x.rest(3, 1), 3, left);
                CHECK.due("degree after " + call, w.x.degree(3), high - 1);
            }
        }
    }

    private static void restByDegreeZero() {
        CHECK.sentence("Promise 12, t of degree 0", "the one with a degree less than that of t");
        for (int lead : new int[] {1, 2, 6144, 12288}) {
            for (int[] a : Edges.series()) {
                World w = new World(CHECK).with(0, a).with(4, lead);
                w.taken("rest by the number " + lead, w.x.rest(0, 4), 0);
            }
        }
    }

    private static void restByDegree31() {
        CHECK.sentence("Promise 12, t of degree 31", "the one with a degree less than that of t");
        World same = new World(CHECK).with(0, Edges.all(2)).with(1, Edges.withFirst(9, Edges.all(4)));
        same.taken("rest of 31 by 31", same.x.rest(0, 1), 0, Reference.mod(2 - 9L * Reference.inverse(2)));
        World high = new World(CHECK).with(0, Edges.all(12288)).with(1, Edges.term(31, 12288));
        high.taken("rest by power 31", high.x.rest(0, 1), 0, powersUpTo(30, 12288));
        World less = new World(CHECK).with(0, powersUpTo(30, 12288)).with(1, Edges.all(1));
        less.taken("rest of 30 by 31", less.x.rest(0, 1), 0, powersUpTo(30, 12288));
        World zero = new World(CHECK).with(0);
        zero.taken("rest of 0 by 31", zero.x.rest(0, 1), 0);
    }

    private static void restOfLesserDegree() {
        CHECK.sentence("Promise 12, s of a lesser degree than t", "Taken as polynomials, series s becomes the rest that s leaves when divided by t");
        for (int high = 0; high < 32; high++) {
            for (int low = -1; low < high; low++) {
                int[] a = powersUpTo(low, 12288);
                World w = new World(CHECK).with(2, a).with(0, powersUpTo(high, 3));
                w.taken("rest of degree " + low + " by degree " + high, w.x.rest(2, 0), 2, a);
            }
        }
    }

    private static void restOfEdges() {
        CHECK.sentence("Promise 12", "Taken as polynomials, series s becomes the rest that s leaves when divided by t");
        int[][] edges = Edges.series();
        for (int[] a : edges) {
            for (int[] b : edges) {
                if (Reference.degree(b) >= 0) {
                    World w = new World(CHECK).with(4, a).with(0, b);
                    w.taken("rest(4, 0)", w.x.rest(4, 0), 4, Reference.rest(a, b));
                }
            }
        }
    }

    private static void restByItself() {
        CHECK.sentence("Promise 12, s = t", "Taken as polynomials, series s becomes the rest that s leaves when divided by t");
        for (int high = 0; high < 32; high++) {
            World w = new World(CHECK).with(3, powersUpTo(high, 5));
            w.taken("rest by itself, of degree " + high, w.x.rest(3, 3), 3);
        }
        for (int s = 0; s < 5; s++) {
            World w = new World(CHECK);
            w.taken("rest(" + s + ", " + s + ")", w.x.rest(s, s), s);
        }
    }

    private static void restByNothing() {
        CHECK.sentence("Promise 12", "or t has degree -1");
        for (int[] a : Edges.series()) {
            World w = new World(CHECK).with(1, a).with(2);
            w.refused("rest(1, 2) by 0", w.x.rest(1, 2));
            World multiples = new World(CHECK).with(1, a).with(2, Edges.all(12289));
            multiples.refused("rest(1, 2) by 12289s", multiples.x.rest(1, 2));
        }
        for (int s = 0; s < 5; s++) {
            World w = new World(CHECK).with(s);
            w.refused("rest(" + s + ", " + s + ") of 0", w.x.rest(s, s));
        }
    }

    private static void restOfNoSeries() {
        CHECK.sentence("Promise 12", "false, changing nothing, when there is no such series");
        for (int none : Edges.NO_SERIES) {
            World first = new World(CHECK);
            first.refused("rest(" + none + ", 0)", first.x.rest(none, 0));
            World second = new World(CHECK);
            second.refused("rest(4, " + none + ")", second.x.rest(4, none));
            World both = new World(CHECK);
            both.refused("rest(" + none + ", " + none + ")", both.x.rest(none, none));
            World empty = new World(CHECK).with(3);
            empty.refused("rest(" + none + ", 3) by 0", empty.x.rest(none, 3));
        }
    }

    private static void valueAtAnyInt() {
        CHECK.sentence("Promise 16", "at x (any int)");
        for (int[] a : Edges.series()) {
            for (int v : Edges.ANY_INT) {
                World w = new World(CHECK).with(0, a).with(4, a);
                w.answered("value(4, " + v + ")", w.x.value(4, v), Reference.value(a, v));
                CHECK.due("value(0, " + v + ")", w.x.value(0, v), Reference.value(a, v));
            }
        }
    }

    private static void valueOfNone() {
        CHECK.sentence("Promise 16", "BAD when there is no series s");
        for (int none : Edges.NO_SERIES) {
            for (int v : new int[] {0, 1, Integer.MIN_VALUE}) {
                World w = new World(CHECK);
                w.refused("value(" + none + ", " + v + ")", w.x.value(none, v));
            }
        }
    }

    private static void shiftByAnyInt() {
        CHECK.sentence("Promise 17", "(x any int)");
        for (int[] a : Edges.series()) {
            for (int v : Edges.ANY_INT) {
                World w = new World(CHECK).with(4, a);
                w.taken("shift(4, " + v + ")", w.x.shift(4, v), 4, Reference.shift(a, v));
            }
        }
        for (int s = 0; s < 5; s++) {
            World w = new World(CHECK);
            w.taken("shift(" + s + ", 12289)", w.x.shift(s, 12289), s, w.series(s));
        }
    }

    /** Every number that y can be modulo P; y + x goes beyond 12288, below 0, and beyond the ints. */
    private static void shiftAtEveryY() {
        CHECK.sentence("Promise 17", "the one whose value at every y is that of s at y + x");
        int[] a = new Numbers(171).series(31);
        int[] by = {1, 12288, -1, Integer.MAX_VALUE, Integer.MIN_VALUE};
        for (int v : by) {
            SeriesSuite x = null;
            for (int y = 0; y < P; y++) {
                if (y % 400 == 0) {
                    x = new SeriesSuite();
                    Reference.write(x, 1, a);
                    CHECK.due("shift(1, " + v + ")", x.shift(1, v), true);
                }
                CHECK.due("value(1, " + y + ") after shift(1, " + v + ")", x.value(1, y), Reference.value(a, (long) y + v));
            }
        }
    }

    private static void shiftOfNone() {
        CHECK.sentence("Promise 17", "false when there is no series s");
        for (int none : Edges.NO_SERIES) {
            for (int v : new int[] {0, 1, Integer.MIN_VALUE}) {
                World w = new World(CHECK);
                w.refused("shift(" + none + ", " + v + ")", w.x.shift(none, v));
            }
        }
    }
}
