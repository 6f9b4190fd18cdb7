/** The boundary cases that promises 2 to 7 name, sentence by sentence: set, fill, coefficient, degree, copy, add. */
public final class CoefficientsBoundariesTest {
    private static final Check CHECK = new Check();

    public static void main(String[] args) {
        setAtEachEnd();
        setAnyInt();
        setOutOfRange();
        fillFromEachPlace();
        fillAnyInts();
        fillOutOfRange();
        coefficientAtEachEnd();
        coefficientOutOfRange();
        degreeOfNone();
        copyOntoItself();
        copyOfEdges();
        copyStaysApart();
        copyOfNone();
        addAnyInt();
        addToItself();
        addOfNone();
        CHECK.finish();
    }

    private static void setAtEachEnd() {
        CHECK.sentence("Promise 2", "Gives coefficient i of series s the value v");
        for (int s = 0; s < 5; s++) {
            for (int i : new int[] {0, 1, 30, 31}) {
                World w = new World(CHECK);
                int[] want = w.series(s);
                want[i] = 5;
                w.taken("set(" + s + ", " + i + ", 5)", w.x.set(s, i, 5), s, want);
            }
        }
    }

    private static void setAnyInt() {
        CHECK.sentence("Promise 2", "(any int, modulo P)");
        for (int v : Edges.ANY_INT) {
            World w = new World(CHECK);
            int[] want = w.series(3);
            want[31] = Reference.mod(v);
            w.taken("set(3, 31, " + v + ")", w.x.set(3, 31, v), 3, want);
        }
    }

    private static void setOutOfRange() {
        CHECK.sentence("Promise 2", "false when s or i is out of range");
        for (int s : Edges.NO_SERIES) {
            for (int i : new int[] {0, 31}) {
                World w = new World(CHECK);
                w.refused("set(" + s + ", " + i + ", 1)", w.x.set(s, i, 1));
            }
        }
        for (int i : Edges.NO_PLACE) {
            for (int s = 0; s < 5; s++) {
                World w = new World(CHECK);
                w.refused("set(" + s + ", " + i + ", 1)", w.x.set(s, i, 1));
            }
        }
        bothOutOfRange();
    }

    private static void bothOutOfRange() {
        for (int s : Edges.NO_SERIES) {
            for (int i : Edges.NO_PLACE) {
                World w = new World(CHECK);
                w.refused("set(" + s + ", " + i + ", 1)", w.x.set(s, i, 1));
            }
        }
    }

    private static int[] filled(int[] a, int i, int v, int w) {
        int[] c = a.clone();
        for (int n = i; n < 32; n++) {
            c[n] = Reference.mod(n == i ? v : (long) c[n - 1] * w);
        }
        return c;
    }

    private static void fillFromEachPlace() {
        CHECK.sentence("Promise 3", "Gives the coefficients i, i + 1, .., 31 of series s the values v, v * w, v * w * w, ..");
        for (int i = 0; i < 32; i++) {
            for (int s = 0; s < 5; s++) {
                World w = new World(CHECK);
                int[] want = filled(w.series(s), i, 12288, 3);
                w.taken("fill(" + s + ", " + i + ", 12288, 3)", w.x.fill(s, i, 12288, 3), s, want);
            }
        }
    }

    private static void fillAnyInts() {
        CHECK.sentence("Promise 3", "(modulo P; v and w any ints)");
        for (int v : Edges.ANY_INT) {
            for (int ratio : Edges.ANY_INT) {
                World w = new World(CHECK);
                int[] want = filled(w.series(4), 1, v, ratio);
                w.taken("fill(4, 1, " + v + ", " + ratio + ")", w.x.fill(4, 1, v, ratio), 4, want);
            }
        }
    }

    private static void fillOutOfRange() {
        CHECK.sentence("Promise 3", "false when s or i is out of range");
        for (int s : Edges.NO_SERIES) {
            for (int i : new int[] {-1, 0, 31, 32}) {
                World w = new World(CHECK);
                w.refused("fill(" + s + ", " + i + ", 1, 1)", w.x.fill(s, i, 1, 1));
            }
        }
        for (int i : Edges.NO_PLACE) {
            for (int s = 0; s < 5; s++) {
                World w = new World(CHECK);
                w.refused("fill(" + s + ", " + i + ", 1, 1)", w.x.fill(s, i, 1, 1));
            }
        }
    }

    private static void coefficientAtEachEnd() {
        CHECK.sentence("Promise 4", "Coefficient i of series s");
        for (int s = 0; s < 5; s++) {
            for (int i : new int[] {0, 1, 30, 31}) {
                World w = new World(CHECK);
                w.answered("coefficient(" + s + ", " + i + ")", w.x.coefficient(s, i), w.series(s)[i]);
            }
        }
    }

    private static void coefficientOutOfRange() {
        CHECK.sentence("Promise 4", "BAD when one is out of range");
        for (int s : Edges.NO_SERIES) {
            for (int i : new int[] {-1, 0, 31, 32}) {
                World w = new World(CHECK);
                w.refused("coefficient(" + s + ", " + i + ")", w.x.coefficient(s, i));
            }
        }
        for (int i : Edges.NO_PLACE) {
            for (int s = 0; s < 5; s++) {
                World w = new World(CHECK);
                w.refused("coefficient(" + s + ", " + i + ")", w.x.coefficient(s, i));
            }
        }
    }

    private static void degreeOfNone() {
        CHECK.sentence("Promise 5", "BAD when there is none");
        for (int s : Edges.NO_SERIES) {
            World w = new World(CHECK);
            w.refused("degree(" + s + ")", w.x.degree(s));
        }
    }

    private static void copyOntoItself() {
        CHECK.sentence("Promise 6, s = t", "Series s becomes series t");
        for (int s = 0; s < 5; s++) {
            World w = new World(CHECK);
            w.taken("copy(" + s + ", " + s + ")", w.x.copy(s, s), s, w.series(s));
        }
    }

    private static void copyOfEdges() {
        CHECK.sentence("Promise 6", "Series s becomes series t");
        for (int s = 0; s < 5; s++) {
            for (int t = 0; t < 5; t++) {
                World w = new World(CHECK);
                w.taken("copy(" + s + ", " + t + ")", w.x.copy(s, t), s, w.series(t));
            }
        }
        for (int[] a : Edges.series()) {
            World w = new World(CHECK).with(4, a);
            w.taken("copy(0, 4)", w.x.copy(0, 4), 0, a);
        }
    }

    /** A copy is not the same series under two numbers. */
    private static void copyStaysApart() {
        CHECK.sentence("Promise 6, after it", "Series s becomes series t");
        World of = new World(CHECK);
        of.taken("copy(1, 2)", of.x.copy(1, 2), 1, of.series(2));
        int[] changed = of.series(2);
        changed[31] = 1;
        of.taken("set(2, 31, 1) after copy(1, 2)", of.x.set(2, 31, 1), 2, changed);
        World to = new World(CHECK);
        to.taken("copy(1, 2)", to.x.copy(1, 2), 1, to.series(2));
        changed = to.series(1);
        changed[0] = 1;
        to.taken("set(1, 0, 1) after copy(1, 2)", to.x.set(1, 0, 1), 1, changed);
    }

    private static void copyOfNone() {
        CHECK.sentence("Promise 6", "false when there is no such series");
        for (int none : Edges.NO_SERIES) {
            World first = new World(CHECK);
            first.refused("copy(" + none + ", 0)", first.x.copy(none, 0));
            World second = new World(CHECK);
            second.refused("copy(4, " + none + ")", second.x.copy(4, none));
            World both = new World(CHECK);
            both.refused("copy(" + none + ", " + none + ")", both.x.copy(none, none));
        }
    }

    private static void addAnyInt() {
        CHECK.sentence("Promise 7", "(v any int)");
        for (int v : Edges.ANY_INT) {
            World w = new World(CHECK).with(0, Edges.all(12288)).with(4, Edges.all(12288));
            int[] want = Reference.sum(w.series(0), w.series(4), v);
            w.taken("add(0, 4, " + v + ") of full series", w.x.add(0, 4, v), 0, want);
            World mixed = new World(CHECK);
            want = Reference.sum(mixed.series(3), mixed.series(1), v);
            mixed.taken("add(3, 1, " + v + ")", mixed.x.add(3, 1, v), 3, want);
        }
    }

    private static void addToItself() {
        CHECK.sentence("Promise 7, s = t", "Series s becomes the sum of s and v times t");
        for (int s = 0; s < 5; s++) {
            for (int v : Edges.ANY_INT) {
                World w = new World(CHECK);
                int[] want = Reference.scaled(w.series(s), 1L + v);
                w.taken("add(" + s + ", " + s + ", " + v + ")", w.x.add(s, s, v), s, want);
            }
        }
    }

    private static void addOfNone() {
        CHECK.sentence("Promise 7", "false when there is no such series");
        for (int none : Edges.NO_SERIES) {
            for (int v : new int[] {0, 1, -1}) {
                World first = new World(CHECK);
                first.refused("add(" + none + ", 0, " + v + ")", first.x.add(none, 0, v));
                World second = new World(CHECK);
                second.refused("add(4, " + none + ", " + v + ")", second.x.add(4, none, v));
                World both = new World(CHECK);
                both.refused("add(" + none + ", " + none + ", " + v + ")", both.x.add(none, none, v));
            }
        }
    }
}
