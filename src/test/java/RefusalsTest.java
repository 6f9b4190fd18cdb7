import java.util.List;
import java.util.function.Predicate;
import java.util.function.ToIntFunction;

/** Promise 18, for each method: after a refusal all coefficients of all series are what they were. */
public final class RefusalsTest {
    private static final String WORDS = "A call that is refused";
    private static final Check CHECK = new Check();

    /** Whether each is taken that must be refused where series 0 starts with 0, series 1 with 2, and series 4 is 0. */
    private static final List<Predicate<SeriesSuite>> REFUSALS = List.of(
            x -> x.set(1, 32, 9), x -> x.fill(1, -1, 9, 9), x -> x.coefficient(5, 1) != -2, x -> x.degree(-1) != -2,
            x -> x.copy(1, 5), x -> x.add(1, -1, 9), x -> x.multiply(5, 1, 0), x -> x.multiply(4, 1, 5),
            x -> x.agree(2, 5, 1, 0), x -> x.agree(3, 1, 0, -1), x -> x.cross(1, 5), x -> x.invert(0), x -> x.rest(1, 4),
            x -> x.log(1), x -> x.exp(1), x -> x.root(1), x -> x.value(5, 9) != -2, x -> x.shift(-1, 9),
            x -> x.invert(5), x -> x.rest(1, 5), x -> x.rest(-1, 1), x -> x.log(5), x -> x.exp(5), x -> x.root(5));

    public static void main(String[] args) {
        places();
        asks();
        oneSeries();
        twoSeries();
        engines();
        notAsSaid();
        nothingLingers();
        whatOnlyAsks();
        CHECK.finish();
    }

    /** The states in which each refused call is made: full series, all the starts that count, and all 0. */
    private static World[] worlds() {
        int[] above = new Numbers(18).series(31);
        World full = new World(CHECK);
        World starts = new World(CHECK).with(0, Edges.withFirst(0, above)).with(1, Edges.withFirst(1, above))
                .with(2, Edges.withFirst(2, above)).with(3, Edges.withFirst(12288, above)).with(4);
        World empty = new World(CHECK).with(0).with(1).with(2).with(3).with(4);
        return new World[] {full, starts, empty};
    }

    private static void refused(String call, Predicate<SeriesSuite> asked) {
        for (World w : worlds()) {
            w.refused(call, asked.test(w.x));
        }
    }

    private static void bad(String call, ToIntFunction<SeriesSuite> asked) {
        for (World w : worlds()) {
            w.refused(call, asked.applyAsInt(w.x));
        }
    }

    private static void places() {
        CHECK.sentence("Promise 18, set", WORDS);
        for (int s : Edges.NO_SERIES) {
            refused("set(" + s + ", 0, 1)", x -> x.set(s, 0, 1));
            refused("set(" + s + ", 31, 12289)", x -> x.set(s, 31, 12289));
        }
        for (int i : Edges.NO_PLACE) {
            refused("set(3, " + i + ", 1)", x -> x.set(3, i, 1));
        }
        CHECK.sentence("Promise 18, fill", WORDS);
        for (int s : Edges.NO_SERIES) {
            refused("fill(" + s + ", 0, 1, 2)", x -> x.fill(s, 0, 1, 2));
            refused("fill(" + s + ", 31, 0, 0)", x -> x.fill(s, 31, 0, 0));
        }
        for (int i : Edges.NO_PLACE) {
            refused("fill(3, " + i + ", 1, 2)", x -> x.fill(3, i, 1, 2));
        }
    }

    private static void asks() {
        CHECK.sentence("Promise 18, coefficient", WORDS);
        for (int s : Edges.NO_SERIES) {
            bad("coefficient(" + s + ", 0)", x -> x.coefficient(s, 0));
        }
        for (int i : Edges.NO_PLACE) {
            bad("coefficient(3, " + i + ")", x -> x.coefficient(3, i));
        }
        CHECK.sentence("Promise 18, degree", WORDS);
        for (int s : Edges.NO_SERIES) {
            bad("degree(" + s + ")", x -> x.degree(s));
        }
        CHECK.sentence("Promise 18, value", WORDS);
        for (int s : Edges.NO_SERIES) {
            bad("value(" + s + ", 2)", x -> x.value(s, 2));
        }
    }

    private static void oneSeries() {
        CHECK.sentence("Promise 18, invert", WORDS);
        for (int s : Edges.NO_SERIES) {
            refused("invert(" + s + ")", x -> x.invert(s));
        }
        CHECK.sentence("Promise 18, log", WORDS);
        for (int s : Edges.NO_SERIES) {
            refused("log(" + s + ")", x -> x.log(s));
        }
        CHECK.sentence("Promise 18, exp", WORDS);
        for (int s : Edges.NO_SERIES) {
            refused("exp(" + s + ")", x -> x.exp(s));
        }
        CHECK.sentence("Promise 18, root", WORDS);
        for (int s : Edges.NO_SERIES) {
            refused("root(" + s + ")", x -> x.root(s));
        }
        CHECK.sentence("Promise 18, shift", WORDS);
        for (int s : Edges.NO_SERIES) {
            refused("shift(" + s + ", 1)", x -> x.shift(s, 1));
        }
    }

    private static void twoSeries() {
        CHECK.sentence("Promise 18, copy", WORDS);
        for (int s : Edges.NO_SERIES) {
            refused("copy(" + s + ", 3)", x -> x.copy(s, 3));
            refused("copy(3, " + s + ")", x -> x.copy(3, s));
        }
        CHECK.sentence("Promise 18, add", WORDS);
        for (int s : Edges.NO_SERIES) {
            refused("add(" + s + ", 3, 2)", x -> x.add(s, 3, 2));
            refused("add(3, " + s + ", 2)", x -> x.add(3, s, 2));
        }
        CHECK.sentence("Promise 18, cross", WORDS);
        for (int s : Edges.NO_SERIES) {
            refused("cross(" + s + ", 3)", x -> x.cross(s, 3));
            refused("cross(3, " + s + ")", x -> x.cross(3, s));
        }
        CHECK.sentence("Promise 18, rest", WORDS);
        for (int s : Edges.NO_SERIES) {
            refused("rest(" + s + ", 3)", x -> x.rest(s, 3));
            refused("rest(3, " + s + ")", x -> x.rest(3, s));
        }
    }

    private static void engines() {
        CHECK.sentence("Promise 18, multiply", WORDS);
        for (int s : Edges.NO_SERIES) {
            for (int engine = 0; engine < 5; engine++) {
                int e = engine;
                refused("multiply(" + e + ", " + s + ", 3)", x -> x.multiply(e, s, 3));
                refused("multiply(" + e + ", 3, " + s + ")", x -> x.multiply(e, 3, s));
            }
        }
        for (int e : Edges.NO_ENGINE) {
            refused("multiply(" + e + ", 2, 3)", x -> x.multiply(e, 2, 3));
        }
        CHECK.sentence("Promise 18, agree", WORDS);
        for (int s : Edges.NO_SERIES) {
            for (int engine = 0; engine < 5; engine++) {
                int e = engine;
                refused("agree(" + e + ", 0, " + s + ", 3)", x -> x.agree(e, 0, s, 3));
                refused("agree(0, " + e + ", 3, " + s + ")", x -> x.agree(0, e, 3, s));
            }
        }
        for (int e : Edges.NO_ENGINE) {
            refused("agree(" + e + ", 0, 2, 3)", x -> x.agree(e, 0, 2, 3));
            refused("agree(0, " + e + ", 2, 3)", x -> x.agree(0, e, 2, 3));
        }
    }

    private static void notAsSaid() {
        CHECK.sentence("Promise 18", "because a number is not as said there");
        int[] above = new Numbers(181).series(31);
        for (int s = 0; s < 5; s++) {
            for (int first : new int[] {0, 1, 2, 12288}) {
                int[] a = Edges.withFirst(first, above);
                if (first == 0) {
                    World w = new World(CHECK).with(s, a);
                    w.refused("invert(" + s + ") of one that starts with 0", w.x.invert(s));
                } else {
                    World w = new World(CHECK).with(s, a);
                    w.refused("exp(" + s + ") of one that starts with " + first, w.x.exp(s));
                }
                if (first != 1) {
                    World log = new World(CHECK).with(s, a);
                    log.refused("log(" + s + ") of one that starts with " + first, log.x.log(s));
                    World root = new World(CHECK).with(s, a);
                    root.refused("root(" + s + ") of one that starts with " + first, root.x.root(s));
                }
            }
            World rest = new World(CHECK).with((s + 1) % 5);
            rest.refused("rest(" + s + ") by 0", rest.x.rest(s, (s + 1) % 5));
        }
    }

    private static World afterRefusal(int kind) {
        int[] above = new Numbers(182).series(31);
        World w = new World(CHECK).with(0, Edges.withFirst(0, above)).with(1, Edges.withFirst(2, above)).with(4);
        CHECK.due("the refusal " + kind, REFUSALS.get(kind).test(w.x), false);
        return w.with(2, Edges.withFirst(1, above));
    }

    /** What a refused call has begun must not show in the next one that is taken. */
    private static void nothingLingers() {
        CHECK.sentence("Promise 18", "changes nothing");
        for (int kind = 0; kind < REFUSALS.size(); kind++) {
            String after = " after the refusal " + kind;
            World w = afterRefusal(kind);
            int[] a = w.series(2);
            int[] b = w.series(3);
            int[] zeroFirst = w.series(0);
            w.taken("copy" + after, w.x.copy(2, 3), 2, b);
            w = afterRefusal(kind);
            w.taken("add" + after, w.x.add(2, 3, 5), 2, Reference.sum(a, b, 5));
            for (int engine = 0; engine < 5; engine++) {
                w = afterRefusal(kind);
                w.taken("multiply" + after, w.x.multiply(engine, 2, 3), 2, Reference.product(a, b));
            }
            w = afterRefusal(kind);
            w.taken("cross" + after, w.x.cross(2, 3), 2, Reference.cross(a, b));
            w = afterRefusal(kind);
            w.taken("invert" + after, w.x.invert(2), 2, Reference.invert(a));
            w = afterRefusal(kind);
            w.taken("rest" + after, w.x.rest(2, 3), 2, Reference.rest(a, b));
            w = afterRefusal(kind);
            w.taken("log" + after, w.x.log(2), 2, Reference.log(a));
            w = afterRefusal(kind);
            w.taken("exp" + after, w.x.exp(0), 0, Reference.exp(zeroFirst));
            w = afterRefusal(kind);
            w.taken("root" + after, w.x.root(2), 2, Reference.root(a));
            w = afterRefusal(kind);
            w.taken("shift" + after, w.x.shift(2, 7), 2, Reference.shift(a, 7));
            w = afterRefusal(kind);
            w.answered("value" + after, w.x.value(2, 7), Reference.value(a, 7));
            w = afterRefusal(kind);
            w.answered("degree" + after, w.x.degree(4), -1);
        }
    }

    /** Promises 4, 5, 9 and 16 describe an answer and no change. */
    private static void whatOnlyAsks() {
        CHECK.sentence("Not promised", "Nothing is promised beyond the answers and state changes described above");
        for (int s = 0; s < 5; s++) {
            World coefficient = new World(CHECK);
            coefficient.answered("coefficient(" + s + ", 31)", coefficient.x.coefficient(s, 31), coefficient.series(s)[31]);
            World degree = new World(CHECK);
            degree.answered("degree(" + s + ")", degree.x.degree(s), 31);
            World value = new World(CHECK);
            value.answered("value(" + s + ", 3)", value.x.value(s, 3), Reference.value(value.series(s), 3));
            World agree = new World(CHECK);
            agree.answered("agree(" + s + ", 0, " + s + ", 3)", agree.x.agree(s, 0, s, 3), true);
        }
    }
}
