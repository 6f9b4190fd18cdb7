/** The boundary cases that promises 8 to 10 name, sentence by sentence: multiply, agree, cross. */
public final class ProductsBoundariesTest {
    private static final Check CHECK = new Check();

    public static void main(String[] args) {
        multiplyOfEdges();
        multiplyWithItself();
        multiplyOfNoSeries();
        multiplyByNoEngine();
        agreeOfEdges();
        agreeWithItself();
        agreeOfNoSeries();
        agreeOfNoEngine();
        crossOfEdges();
        crossWithoutCarrying();
        crossWithItself();
        crossOfNone();
        CHECK.finish();
    }

    private static void multiplyOfEdges() {
        CHECK.sentence("Promise 8", "Series s becomes the product of s and t");
        int[][] edges = Edges.series();
        for (int k = 0; k < edges.length; k++) {
            for (int engine = 0; engine < 5; engine++) {
                int[] other = edges[(k + 1 + engine) % edges.length];
                World w = new World(CHECK).with(4, edges[k]).with(0, other);
                int[] want = Reference.product(edges[k], other);
                w.taken("multiply(" + engine + ", 4, 0)", w.x.multiply(engine, 4, 0), 4, want);
            }
        }
    }

    private static void multiplyWithItself() {
        CHECK.sentence("Promise 8, s = t", "Series s becomes the product of s and t");
        for (int engine = 0; engine < 5; engine++) {
            for (int[] a : Edges.series()) {
                World w = new World(CHECK).with(2, a);
                w.taken("multiply(" + engine + ", 2, 2)", w.x.multiply(engine, 2, 2), 2, Reference.product(a, a));
            }
            for (int s = 0; s < 5; s++) {
                World w = new World(CHECK);
                int[] want = Reference.product(w.series(s), w.series(s));
                String call = "multiply(" + engine + ", " + s + ", " + s + ")";
                w.taken(call, w.x.multiply(engine, s, s), s, want);
            }
        }
    }

    private static void multiplyOfNoSeries() {
        CHECK.sentence("Promise 8, series", "false, changing nothing, when there is no such series or engine");
        for (int none : Edges.NO_SERIES) {
            for (int engine = 0; engine < 5; engine++) {
                World first = new World(CHECK);
                first.refused("multiply(" + engine + ", " + none + ", 0)", first.x.multiply(engine, none, 0));
                World second = new World(CHECK);
                second.refused("multiply(" + engine + ", 4, " + none + ")", second.x.multiply(engine, 4, none));
                World both = new World(CHECK);
                both.refused("multiply(" + engine + ", " + none + ", " + none + ")", both.x.multiply(engine, none, none));
            }
        }
    }

    private static void multiplyByNoEngine() {
        CHECK.sentence("Promise 8, engine", "false, changing nothing, when there is no such series or engine");
        for (int none : Edges.NO_ENGINE) {
            for (int s = 0; s < 5; s++) {
                World w = new World(CHECK);
                w.refused("multiply(" + none + ", " + s + ", 2)", w.x.multiply(none, s, 2));
            }
            World all = new World(CHECK);
            all.refused("multiply(" + none + ", -1, 5)", all.x.multiply(none, -1, 5));
        }
    }

    private static void agreeOfEdges() {
        CHECK.sentence("Promise 9", "Whether two engines find the same product of s and t");
        int[][] edges = Edges.series();
        for (int k = 0; k < edges.length; k++) {
            for (int engine = 0; engine < 5; engine++) {
                for (int other = 0; other < 5; other++) {
                    World w = new World(CHECK).with(4, edges[k]).with(0, edges[(k + 1 + engine) % edges.length]);
                    w.answered("agree(" + engine + ", " + other + ", 4, 0)", w.x.agree(engine, other, 4, 0), true);
                }
            }
        }
    }

    private static void agreeWithItself() {
        CHECK.sentence("Promise 9, s = t", "Whether two engines find the same product of s and t");
        for (int[] a : Edges.series()) {
            for (int engine = 0; engine < 5; engine++) {
                World w = new World(CHECK).with(3, a);
                int other = (engine + 1) % 5;
                w.answered("agree(" + engine + ", " + other + ", 3, 3)", w.x.agree(engine, other, 3, 3), true);
            }
        }
    }

    private static void agreeOfNoSeries() {
        CHECK.sentence("Promise 9, series", "false when there is no such series or engine");
        for (int none : Edges.NO_SERIES) {
            for (int engine = 0; engine < 5; engine++) {
                int other = 4 - engine;
                World first = new World(CHECK);
                first.refused("agree(" + engine + ", " + other + ", " + none + ", 0)", first.x.agree(engine, other, none, 0));
                World second = new World(CHECK);
                second.refused("agree(" + engine + ", " + other + ", 4, " + none + ")", second.x.agree(engine, other, 4, none));
                World both = new World(CHECK);
                both.refused("agree of " + none + " twice", both.x.agree(engine, other, none, none));
            }
        }
    }

    private static void agreeOfNoEngine() {
        CHECK.sentence("Promise 9, engine", "false when there is no such series or engine");
        for (int none : Edges.NO_ENGINE) {
            for (int there = 0; there < 5; there++) {
                World first = new World(CHECK);
                first.refused("agree(" + none + ", " + there + ", 0, 4)", first.x.agree(none, there, 0, 4));
                World second = new World(CHECK);
                second.refused("agree(" + there + ", " + none + ", 0, 4)", second.x.agree(there, none, 0, 4));
            }
            // The same missing engine twice would agree with itself.
            World both = new World(CHECK);
            both.refused("agree(" + none + ", " + none + ", 0, 4)", both.x.agree(none, none, 0, 4));
        }
    }

    private static void crossOfEdges() {
        CHECK.sentence("Promise 10", "for all i and j");
        int[][] edges = Edges.series();
        for (int[] a : edges) {
            for (int[] b : edges) {
                World w = new World(CHECK).with(0, a).with(4, b);
                w.taken("cross(0, 4)", w.x.cross(0, 4), 0, Reference.cross(a, b));
            }
        }
    }

    /** One coefficient each: every pair of places, those with bits in common too. */
    private static void crossWithoutCarrying() {
        CHECK.sentence("Promise 10", "whose bits, put together without carrying, are n");
        for (int i = 0; i < 32; i++) {
            for (int j = 0; j < 32; j++) {
                World w = new World(CHECK).with(1, Edges.term(i, 12288)).with(2, Edges.term(j, 12287));
                int n = 0;
                for (int bit = 1; bit < 32; bit *= 2) {
                    n += (i / bit + j / bit) % 2 * bit;
                }
                w.taken("cross(1, 2) of the places " + i + " and " + j, w.x.cross(1, 2), 1, Edges.term(n, 2));
            }
        }
    }

    private static void crossWithItself() {
        CHECK.sentence("Promise 10, s = t", "Series s becomes the one whose coefficient n is the sum");
        for (int[] a : Edges.series()) {
            World w = new World(CHECK).with(3, a);
            w.taken("cross(3, 3)", w.x.cross(3, 3), 3, Reference.cross(a, a));
        }
        for (int s = 0; s < 5; s++) {
            World w = new World(CHECK);
            w.taken("cross(" + s + ", " + s + ")", w.x.cross(s, s), s, Reference.cross(w.series(s), w.series(s)));
        }
    }

    private static void crossOfNone() {
        CHECK.sentence("Promise 10", "false when there is no such series");
        for (int none : Edges.NO_SERIES) {
            World first = new World(CHECK);
            first.refused("cross(" + none + ", 0)", first.x.cross(none, 0));
            World second = new World(CHECK);
            second.refused("cross(4, " + none + ")", second.x.cross(4, none));
            World both = new World(CHECK);
            both.refused("cross(" + none + ", " + none + ")", both.x.cross(none, none));
        }
    }
}
