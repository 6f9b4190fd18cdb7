/** The boundary cases that promises 11 and 13 to 15 name, sentence by sentence: invert, log, exp, root. */
public final class SolvedBoundariesTest {
    private static final int P = Reference.P;
    private static final Check CHECK = new Check();

    public static void main(String[] args) {
        invertOfEdges();
        invertEachFirst();
        invertRefusesZero();
        logOfEdges();
        logButForTheLast();
        logRefusesOtherThanOne();
        expOfEdges();
        expButForTheLast();
        expRefusesOtherThanZero();
        rootOfEdges();
        rootIsTheOneWithOne();
        rootRefusesOtherThanOne();
        CHECK.finish();
    }

    /** The series there is, with this as its coefficient 0 and each of the edge series above it. */
    private static World startingWith(int s, int first, int[] above) {
        return new World(CHECK).with(s, Edges.withFirst(first, above));
    }

    private static void dueRow(String call, int[] got, int... want) {
        for (int n = 0; n < 32; n++) {
            CHECK.due("coefficient " + n + " of " + call, got[n], n < want.length ? want[n] : 0);
        }
    }

    private static void invertOfEdges() {
        CHECK.sentence("Promise 11", "Series s becomes the one with which its product is 1 (coefficient 0, the others 0)");
        for (int[] above : Edges.series()) {
            for (int first : new int[] {1, 2, 12288}) {
                World w = startingWith(4, first, above);
                int[] a = w.series(4);
                w.taken("invert(4), starting with " + first, w.x.invert(4), 4, Reference.invert(a));
                dueRow("a series times its inverse", Reference.product(a, Reference.read(w.x, 4)), 1);
            }
        }
        for (int s = 0; s < 5; s++) {
            World w = new World(CHECK);
            w.taken("invert(" + s + ")", w.x.invert(s), s, Reference.invert(w.series(s)));
        }
    }

    private static void invertEachFirst() {
        CHECK.sentence("Promise 11, each coefficient 0", "when there is no series s or its coefficient 0 is 0");
        SeriesSuite x = null;
        for (int first = 0; first < P; first++) {
            x = first % 100 == 0 ? new SeriesSuite() : x;
            x.set(0, 0, first);
            CHECK.due("invert of " + first, x.invert(0), first != 0);
            CHECK.due(first + " times its inverse", (long) first * x.coefficient(0, 0) % P, first == 0 ? 0 : 1);
        }
    }

    private static void invertRefusesZero() {
        CHECK.sentence("Promise 11", "false, changing nothing, when there is no series s or its coefficient 0 is 0");
        for (int first : new int[] {0, 12289, -12289}) {
            for (int[] above : Edges.series()) {
                World w = startingWith(1, first, above);
                w.refused("invert(1), coefficient 0 set to " + first, w.x.invert(1));
            }
        }
        for (int none : Edges.NO_SERIES) {
            World w = new World(CHECK);
            w.refused("invert(" + none + ")", w.x.invert(none));
        }
    }

    private static void logOfEdges() {
        CHECK.sentence("Promise 13", "Series s becomes the one with coefficient 0 equal to 0 whose derivative, multiplied with s, is the derivative of s");
        for (int[] above : Edges.series()) {
            for (int s = 0; s < 5; s++) {
                World w = startingWith(s, 1, above);
                w.taken("log(" + s + ")", w.x.log(s), s, Reference.log(w.series(s)));
            }
        }
        World one = new World(CHECK).with(2, 12290);
        one.taken("log of 1, set as 12290", one.x.log(2), 2);
    }

    /** With s = 1 + y, the product has 1 as its coefficient 31, and the derivative of s has 0. */
    private static void logButForTheLast() {
        CHECK.sentence("Promise 13", "(but for coefficient 31)");
        World w = new World(CHECK).with(0, 1, 1);
        int[] want = new int[32];
        for (int n = 1; n < 32; n++) {
            want[n] = Reference.mod((n % 2 == 0 ? -1L : 1L) * Reference.inverse(n));
        }
        w.taken("log of 1 + y", w.x.log(0), 0, want);
        int[] product = Reference.product(Reference.derivative(Reference.read(w.x, 0)), new int[] {
            1, 1, 0, 0, 0, 0, 0, 0, 0, 0, 0, 0, 0, 0, 0, 0, 0, 0, 0, 0, 0, 0, 0, 0, 0, 0, 0, 0, 0, 0, 0, 0});
        dueRow("the derivative times 1 + y", product, Edges.withFirst(1, Edges.term(31, 1)));
        for (int[] above : Edges.series()) {
            World last = startingWith(3, 1, above);
            int[] a = last.series(3);
            last.x.log(3);
            int[] left = Reference.product(Reference.derivative(Reference.read(last.x, 3)), a);
            dueRow("log's derivative times s", withoutLast(left), withoutLast(Reference.derivative(a)));
        }
    }

    private static int[] withoutLast(int[] a) {
        int[] c = a.clone();
        c[31] = 0;
        return c;
    }

    private static void logRefusesOtherThanOne() {
        CHECK.sentence("Promise 13", "false, changing nothing, when there is no series s or its coefficient 0 is not 1");
        for (int first : new int[] {0, 2, 12288, 12289, -1}) {
            for (int[] above : Edges.series()) {
                World w = startingWith(1, first, above);
                w.refused("log(1), coefficient 0 set to " + first, w.x.log(1));
            }
        }
        SeriesSuite x = null;
        for (int first = 0; first < P; first++) {
            x = first % 100 == 0 ? new SeriesSuite() : x;
            x.set(4, 0, first);
            CHECK.due("log of " + first, x.log(4), first == 1);
            CHECK.due("coefficient(4, 0) after log of " + first, x.coefficient(4, 0), first == 1 ? 0 : first);
        }
        for (int none : Edges.NO_SERIES) {
            World w = new World(CHECK).with(0, 1).with(4, 1);
            w.refused("log(" + none + ")", w.x.log(none));
        }
    }

    private static void expOfEdges() {
        CHECK.sentence("Promise 14", "Series s becomes the one with coefficient 0 equal to 1 whose derivative is its product with the derivative of s");
        for (int[] above : Edges.series()) {
            for (int s = 0; s < 5; s++) {
                World w = startingWith(s, 0, above);
                w.taken("exp(" + s + ")", w.x.exp(s), s, Reference.exp(w.series(s)));
            }
        }
        World zero = new World(CHECK).with(2, 12289);
        zero.taken("exp of 0, set as 12289", zero.x.exp(2), 2, 1);
    }

    /** With s = y, the product has 1 / 31! as its coefficient 31, and the derivative has 0. */
    private static void expButForTheLast() {
        CHECK.sentence("Promise 14", "(but for coefficient 31)");
        World w = new World(CHECK).with(0, 0, 1);
        int[] want = new int[32];
        long factorial = 1;
        for (int n = 0; n < 32; n++) {
            factorial = n == 0 ? 1 : factorial * n % P;
            want[n] = Reference.inverse(factorial);
        }
        w.taken("exp of y", w.x.exp(0), 0, want);
        int[] found = Reference.read(w.x, 0);
        int[] product = Reference.product(found, Edges.term(0, 1));
        CHECK.due("coefficient 31 of the product", product[31], Reference.inverse(factorial));
        CHECK.due("coefficient 31 of the derivative", Reference.derivative(found)[31], 0);
        for (int[] above : Edges.series()) {
            World last = startingWith(3, 0, above);
            int[] a = last.series(3);
            last.x.exp(3);
            int[] got = Reference.read(last.x, 3);
            int[] right = Reference.product(got, Reference.derivative(a));
            dueRow("exp's derivative", withoutLast(Reference.derivative(got)), withoutLast(right));
        }
    }

    private static void expRefusesOtherThanZero() {
        CHECK.sentence("Promise 14", "false, changing nothing, when there is no series s or its coefficient 0 is not 0");
        for (int first : new int[] {1, 2, 12288, 12290, -1}) {
            for (int[] above : Edges.series()) {
                World w = startingWith(1, first, above);
                w.refused("exp(1), coefficient 0 set to " + first, w.x.exp(1));
            }
        }
        SeriesSuite x = null;
        for (int first = 0; first < P; first++) {
            x = first % 100 == 0 ? new SeriesSuite() : x;
            x.set(4, 0, first);
            CHECK.due("exp of " + first, x.exp(4), first == 0);
            CHECK.due("coefficient(4, 0) after exp of " + first, x.coefficient(4, 0), first == 0 ? 1 : first);
        }
        for (int none : Edges.NO_SERIES) {
            World w = new World(CHECK).with(0).with(4);
            w.refused("exp(" + none + ")", w.x.exp(none));
        }
    }

    private static void rootOfEdges() {
        CHECK.sentence("Promise 15", "Series s becomes the one with coefficient 0 equal to 1 whose product with itself is s");
        for (int[] above : Edges.series()) {
            for (int s = 0; s < 5; s++) {
                World w = startingWith(s, 1, above);
                int[] a = w.series(s);
                w.taken("root(" + s + ")", w.x.root(s), s, Reference.root(a));
                int[] found = Reference.read(w.x, s);
                dueRow("a root times itself", Reference.product(found, found), a);
            }
        }
    }

    /** Of the two series that have this square, not the one with 12288. */
    private static void rootIsTheOneWithOne() {
        CHECK.sentence("Promise 15", "with coefficient 0 equal to 1");
        World square = new World(CHECK).with(2, 1, -2, 1);
        square.taken("root of the square of y - 1", square.x.root(2), 2, 1, 12288);
        World one = new World(CHECK).with(2, 1);
        one.taken("root of 1", one.x.root(2), 2, 1);
        World last = new World(CHECK).with(0, Edges.withFirst(1, Edges.term(31, 2)));
        last.taken("root of 1 + 2 * power 31", last.x.root(0), 0, Edges.withFirst(1, Edges.term(31, 1)));
    }

    private static void rootRefusesOtherThanOne() {
        CHECK.sentence("Promise 15", "false, changing nothing, when there is no series s or its coefficient 0 is not 1");
        for (int first : new int[] {0, 2, 4, 12288, 12289, -1}) {
            for (int[] above : Edges.series()) {
                World w = startingWith(1, first, above);
                w.refused("root(1), coefficient 0 set to " + first, w.x.root(1));
            }
        }
        SeriesSuite x = null;
        for (int first = 0; first < P; first++) {
            x = first % 100 == 0 ? new SeriesSuite() : x;
            x.set(4, 0, first);
            CHECK.due("root of " + first, x.root(4), first == 1);
            CHECK.due("coefficient(4, 0) after root of " + first, x.coefficient(4, 0), first);
        }
        for (int none : Edges.NO_SERIES) {
            World w = new World(CHECK).with(0, 1).with(4, 1);
            w.refused("root(" + none + ")", w.x.root(none));
        }
    }
}
