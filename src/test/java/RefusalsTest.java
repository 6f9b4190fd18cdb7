import java.util.function.ToIntFunction;

/** Promise 18: a refused call changes nothing, in no series; and rule 7: no call throws, whatever it is given. */
public final class RefusalsTest {
    private static final int[] NO_SERIES = {-1, 5, 6, 32, Integer.MIN_VALUE, Integer.MAX_VALUE, 1 << 27, -(1 << 27)};
    private static final int[] NO_PLACE = {-1, 32, 33, -32, 160, Integer.MIN_VALUE, Integer.MAX_VALUE};
    private static final int[] NO_ENGINE = {-1, 5, 6, Integer.MIN_VALUE, Integer.MAX_VALUE};
    private static final Check CHECK = new Check();

    public static void main(String[] args) {
        for (int s : NO_SERIES) {
            oneSeriesMissing(s);
            twoSeriesMissing(s, 3);
            twoSeriesMissing(s, s);
        }
        for (int i : NO_PLACE) {
            refused("set with i = " + i, 0, x -> answer(x.set(3, i, 1)));
            refused("fill with i = " + i, 0, x -> answer(x.fill(3, i, 1, 2)));
            refused("coefficient with i = " + i, -2, x -> x.coefficient(3, i));
        }
        for (int engine : NO_ENGINE) {
            refused("multiply by engine " + engine, 0, x -> answer(x.multiply(engine, 2, 3)));
            refused("agree by engine " + engine, 0, x -> answer(x.agree(engine, 2, 2, 3)));
            refused("agree by other engine " + engine, 0, x -> answer(x.agree(1, engine, 2, 3)));
        }
        notAsSaid();
        asksChangeNothing();
        CHECK.finish();
    }

    private static int answer(boolean b) {
        return b ? 1 : 0;
    }

    /** Series 0 starts with 0, 1 with 1, 2 with 2, 3 with 12288; series 4 is 0. */
    private static SeriesSuite prepared() {
        SeriesSuite x = new SeriesSuite();
        for (int s = 0; s < 4; s++) {
            x.fill(s, 0, 7 + s, 11 + s);
            x.set(s, 0, s < 3 ? s : 12288);
        }
        return x;
    }

    private static void refused(String call, int want, ToIntFunction<SeriesSuite> asked) {
        SeriesSuite untouched = prepared();
        SeriesSuite x = prepared();
        CHECK.due(call, asked.applyAsInt(x), want);
        for (int s = 0; s < 5; s++) {
            CHECK.dueSeries(call, x, s, Reference.read(untouched, s));
        }
    }

    private static void oneSeriesMissing(int s) {
        String there = " with s = " + s;
        refused("set" + there, 0, x -> answer(x.set(s, 0, 1)));
        refused("set" + there, 0, x -> answer(x.set(s, 31, 1)));
        refused("fill" + there, 0, x -> answer(x.fill(s, 0, 1, 2)));
        refused("coefficient" + there, -2, x -> x.coefficient(s, 0));
        refused("degree" + there, -2, x -> x.degree(s));
        refused("invert" + there, 0, x -> answer(x.invert(s)));
        refused("log" + there, 0, x -> answer(x.log(s)));
        refused("exp" + there, 0, x -> answer(x.exp(s)));
        refused("root" + there, 0, x -> answer(x.root(s)));
        refused("value" + there, -2, x -> x.value(s, 1));
        refused("shift" + there, 0, x -> answer(x.shift(s, 1)));
    }

    private static void twoSeriesMissing(int s, int t) {
        String there = " with series " + s + " and " + t;
        refused("copy" + there, 0, x -> answer(x.copy(s, t)));
        refused("copy" + there, 0, x -> answer(x.copy(t, s)));
        refused("add" + there, 0, x -> answer(x.add(s, t, 2)));
        refused("add" + there, 0, x -> answer(x.add(t, s, 2)));
        refused("cross" + there, 0, x -> answer(x.cross(s, t)));
        refused("cross" + there, 0, x -> answer(x.cross(t, s)));
        refused("rest" + there, 0, x -> answer(x.rest(s, t)));
        refused("rest" + there, 0, x -> answer(x.rest(t, s)));
        for (int engine = 0; engine < 5; engine++) {
            int e = engine;
            refused("multiply" + there, 0, x -> answer(x.multiply(e, s, t)));
            refused("multiply" + there, 0, x -> answer(x.multiply(e, t, s)));
            refused("agree" + there, 0, x -> answer(x.agree(e, 0, s, t)));
            refused("agree" + there, 0, x -> answer(x.agree(0, e, t, s)));
        }
    }

    private static void notAsSaid() {
        refused("invert, starting with 0", 0, x -> answer(x.invert(0)));
        refused("invert of 0", 0, x -> answer(x.invert(4)));
        refused("log, starting with 0", 0, x -> answer(x.log(0)));
        refused("log, starting with 2", 0, x -> answer(x.log(2)));
        refused("log, starting with 12288", 0, x -> answer(x.log(3)));
        refused("log of 0", 0, x -> answer(x.log(4)));
        refused("exp, starting with 1", 0, x -> answer(x.exp(1)));
        refused("exp, starting with 2", 0, x -> answer(x.exp(2)));
        refused("exp, starting with 12288", 0, x -> answer(x.exp(3)));
        refused("root, starting with 0", 0, x -> answer(x.root(0)));
        refused("root, starting with 2", 0, x -> answer(x.root(2)));
        refused("root, starting with 12288", 0, x -> answer(x.root(3)));
        refused("root of 0", 0, x -> answer(x.root(4)));
        refused("rest by 0", 0, x -> answer(x.rest(3, 4)));
        refused("rest of 0 by 0", 0, x -> answer(x.rest(4, 4)));
    }

    /** What only asks changes nothing either. */
    private static void asksChangeNothing() {
        refused("coefficient(3, 0)", 12288, x -> x.coefficient(3, 0));
        refused("degree(3)", 31, x -> x.degree(3));
        refused("value(2, 0)", 2, x -> x.value(2, 0));
        for (int engine = 0; engine < 5; engine++) {
            int e = engine;
            refused("agree(" + e + ", 0, 2, 3)", 1, x -> answer(x.agree(e, 0, 2, 3)));
        }
    }
}
