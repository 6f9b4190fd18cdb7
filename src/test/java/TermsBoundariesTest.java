import java.util.ArrayList;
import java.util.List;
import java.util.function.ToIntFunction;

/** The boundary cases that the sections "What it is" and "Terms" and promise 1 name, sentence by sentence. */
public final class TermsBoundariesTest {
    private static final Check CHECK = new Check();

    public static void main(String[] args) {
        lastCallThatCounts();
        stateAtTheLastCallThatCounts();
        callsBeyondEnd();
        numbersWrapAround();
        numbersStayInside();
        seriesAndPlaces();
        allZeroAtFirst();
        newObjectIsItsOwn();
        productLeavesOutHighPowers();
        productTakesBothEnds();
        derivativeEndsWithZero();
        degreeOfNothing();
        degreeIsTheLast();
        enginesThereAre();
        noAnswerDependsOnTheEngine();
        CHECK.finish();
    }

    private static int answer(boolean b) {
        return b ? 1 : 0;
    }

    /** Series 0 starts with 0, 1 with 1, 2 is 5, 6, 7; 3 and 4 are 0. */
    private static SeriesSuite smallWorld() {
        SeriesSuite x = new SeriesSuite();
        x.set(0, 1, 4);
        x.set(1, 0, 1);
        x.set(2, 0, 5);
        x.set(2, 1, 6);
        x.set(2, 2, 7);
        return x;
    }

    private static void use(SeriesSuite x, int calls) {
        for (int k = 0; k < calls; k++) {
            switch (k % 5) {
                case 0:
                    x.multiply(k % 7, 2, 1);
                    break;
                case 1:
                    x.coefficient(k % 6, k % 40);
                    break;
                case 2:
                    x.rest(4, 3);
                    break;
                case 3:
                    x.agree(k % 5, (k + 1) % 5, 2, 0);
                    break;
                default:
                    x.add(2, 3, k);
                    break;
            }
        }
    }

    private static void lastCallThatCounts() {
        CHECK.sentence("What it is", "An object is used for at most 512 calls after it has been made");
        List<ToIntFunction<SeriesSuite>> last = new ArrayList<>();
        last.add(x -> answer(x.set(4, 31, 1)));
        last.add(x -> answer(x.fill(4, 0, 1, 1)));
        last.add(x -> x.coefficient(2, 0) - 4);
        last.add(x -> x.degree(2) - 1);
        last.add(x -> answer(x.copy(4, 2)));
        last.add(x -> answer(x.add(4, 2, 1)));
        last.add(x -> answer(x.multiply(3, 2, 2)));
        last.add(x -> answer(x.agree(3, 4, 2, 2)));
        last.add(x -> answer(x.cross(2, 2)));
        last.add(x -> answer(x.invert(2)));
        last.add(x -> answer(x.rest(2, 0)));
        last.add(x -> answer(x.log(1)));
        last.add(x -> answer(x.exp(0)));
        last.add(x -> answer(x.root(1)));
        last.add(x -> x.value(2, 1) - 17);
        last.add(x -> answer(x.shift(2, 1)));
        last.add(x -> 1 - answer(x.set(5, 0, 1)));
        last.add(x -> x.coefficient(0, 32) + 3);
        for (int k = 0; k < last.size(); k++) {
            SeriesSuite x = smallWorld();
            use(x, 506);
            CHECK.due("the 512th call, of kind " + k, last.get(k).applyAsInt(x), 1);
        }
    }

    /** The change is call 352, and the 160 looks at it end with call 512. */
    private static void stateAtTheLastCallThatCounts() {
        CHECK.sentence("What it is", "at most 512 calls");
        SeriesSuite x = smallWorld();
        use(x, 346);
        CHECK.due("call 352, multiply(2, 2, 2)", x.multiply(2, 2, 2), true);
        CHECK.dueSeries("calls 353 to 384", x, 0, 0, 4);
        CHECK.dueSeries("calls 385 to 416", x, 1, 1);
        CHECK.dueSeries("calls 417 to 448", x, 2, 25, 60, 106, 84, 49);
        CHECK.dueSeries("calls 449 to 480", x, 3);
        CHECK.dueSeries("calls 481 to 512", x, 4);
    }

    /** What they answer is free, but none may throw (rule 7 of LANGUAGE.md). */
    private static void callsBeyondEnd() {
        CHECK.sentence("What it is", "what later calls answer is free");
        SeriesSuite x = smallWorld();
        use(x, 100_000);
        CHECK.due("the end of 100005 calls", true, true);
    }

    private static void numbersWrapAround() {
        CHECK.sentence("Terms", "All numbers are taken modulo P = 12289");
        World sum = new World(CHECK).with(0, 12288, 12288).with(1, 1, 2);
        sum.taken("add: 12288 + 1 and 12288 + 2", sum.x.add(0, 1, 1), 0, 0, 1);
        World difference = new World(CHECK).with(0, 0, 1).with(1, 1, 1);
        difference.taken("add: 0 - 1 and 1 - 1", difference.x.add(0, 1, -1), 0, 12288);
        for (int engine = 0; engine < 5; engine++) {
            World product = new World(CHECK).with(0, 12288).with(1, 12288, 2);
            product.taken("multiply(" + engine + "): 12288 * 12288", product.x.multiply(engine, 0, 1), 0, 1, 12287);
        }
        World power = new World(CHECK).with(0);
        power.taken("fill(0, 29, 12288, 12288)", power.x.fill(0, 29, 12288, 12288), 0,
                Reference.sum(Edges.term(29, 12288), Reference.sum(Edges.term(30, 1), Edges.term(31, 12288), 1), 1));
        World value = new World(CHECK).with(0, 12288, 1);
        value.answered("value(0, 1) of 12288 + y", value.x.value(0, 1), 0);
    }

    private static void numbersStayInside() {
        CHECK.sentence("Terms", "and are 0 .. 12288");
        for (int v : Edges.ANY_INT) {
            SeriesSuite x = new SeriesSuite();
            x.set(0, 0, v);
            x.fill(1, 0, v, v);
            x.fill(2, 0, -1, 1);
            x.add(2, 1, v);
            x.copy(3, 1);
            x.shift(3, v);
            x.copy(4, 1);
            x.cross(4, 3);
            for (int s = 0; s < 5; s++) {
                for (int i = 0; i < 32; i++) {
                    int got = x.coefficient(s, i);
                    CHECK.due("coefficient(" + s + ", " + i + ") = " + got + " is 0 .. 12288", got >= 0 && got <= 12288, true);
                }
                int got = x.value(s, v);
                CHECK.due("value(" + s + ", " + v + ") = " + got + " is 0 .. 12288", got >= 0 && got <= 12288, true);
            }
        }
        SeriesSuite x = new SeriesSuite();
        x.set(0, 0, 12288);
        CHECK.due("the greatest number", x.coefficient(0, 0), 12288);
    }

    /** Each of the 160 coefficients is one of its own. */
    private static void seriesAndPlaces() {
        CHECK.sentence("Terms", "A SERIES (0 .. 4) has the COEFFICIENTS 0 .. 31");
        SeriesSuite x = new SeriesSuite();
        for (int s = 0; s < 5; s++) {
            for (int i = 0; i < 32; i++) {
                CHECK.due("set(" + s + ", " + i + ")", x.set(s, i, 1 + 32 * s + i), true);
            }
        }
        for (int s = 0; s < 5; s++) {
            for (int i = 0; i < 32; i++) {
                CHECK.due("coefficient(" + s + ", " + i + ")", x.coefficient(s, i), 1 + 32 * s + i);
            }
        }
        CHECK.due("coefficient(-1, 0)", x.coefficient(-1, 0), -2);
        CHECK.due("coefficient(5, 0)", x.coefficient(5, 0), -2);
        CHECK.due("coefficient(0, -1)", x.coefficient(0, -1), -2);
        CHECK.due("coefficient(0, 32)", x.coefficient(0, 32), -2);
        CHECK.due("coefficient(4, 32)", x.coefficient(4, 32), -2);
    }

    private static void allZeroAtFirst() {
        CHECK.sentence("Terms", "all 0 at first");
        SeriesSuite x = new SeriesSuite();
        for (int s = 0; s < 5; s++) {
            CHECK.dueSeries("new SeriesSuite()", x, s);
            CHECK.due("degree(" + s + ") of a new object", x.degree(s), -1);
            CHECK.due("value(" + s + ", 1) of a new object", x.value(s, 1), 0);
        }
    }

    private static void newObjectIsItsOwn() {
        CHECK.sentence("Promise 1", "All coefficients are 0.");
        World old = new World(CHECK);
        SeriesSuite x = new SeriesSuite();
        for (int s = 0; s < 5; s++) {
            CHECK.dueSeries("a second new object", x, s);
            x.fill(s, 0, 0, 0);
        }
        old.answered("degree(0) of the first object", old.x.degree(0), 31);
    }

    private static void productLeavesOutHighPowers() {
        CHECK.sentence("Terms", "the product without what belongs to 32 and higher powers");
        int[][] powers = {{0, 31}, {31, 0}, {15, 16}, {16, 15}, {1, 30}, {31, 1}, {1, 31}, {16, 16}, {17, 15}, {31, 31}, {30, 2}};
        for (int engine = 0; engine < 5; engine++) {
            for (int[] p : powers) {
                World w = new World(CHECK).with(2, Edges.term(p[0], 12288)).with(3, Edges.term(p[1], 12287));
                String call = "multiply(" + engine + ") of the powers " + p[0] + " and " + p[1];
                boolean counts = p[0] + p[1] < 32;
                w.taken(call, w.x.multiply(engine, 2, 3), 2, counts ? Edges.term(31, 2) : new int[32]);
            }
            World full = new World(CHECK).with(0, Edges.all(12288));
            int[] countsUp = new int[32];
            for (int n = 0; n < 32; n++) {
                countsUp[n] = n + 1;
            }
            full.taken("multiply(" + engine + ") of a full series with itself", full.x.multiply(engine, 0, 0), 0, countsUp);
        }
    }

    private static void productTakesBothEnds() {
        CHECK.sentence("Terms", "for i from 0 to n");
        for (int engine = 0; engine < 5; engine++) {
            for (int n = 1; n < 32; n++) {
                World w = new World(CHECK).with(1, Edges.withFirst(3, Edges.term(n, 5))).with(4, Edges.withFirst(7, Edges.term(n, 11)));
                int[] want = Edges.withFirst(21, Edges.term(n, 3 * 11 + 5 * 7));
                if (2 * n < 32) {
                    want[2 * n] = 55;
                }
                w.taken("multiply(" + engine + ") of 1 and power " + n, w.x.multiply(engine, 1, 4), 1, want);
            }
        }
    }

    /**
     * A derivative shows in log and exp alone. Were its last coefficient anything but 0, these would not be
     * the answers for a series whose only other coefficient is the last one.
     */
    private static void derivativeEndsWithZero() {
        CHECK.sentence("Terms", "and 0 as the last one");
        World log = new World(CHECK).with(1, Edges.withFirst(1, Edges.term(31, 9)));
        log.taken("log of 1 + 9 * power 31", log.x.log(1), 1, Edges.term(31, 9));
        World exp = new World(CHECK).with(1, Edges.term(31, 9));
        exp.taken("exp of 9 * power 31", exp.x.exp(1), 1, Edges.withFirst(1, Edges.term(31, 9)));
        int[] ofFull = Reference.derivative(Edges.all(1));
        CHECK.due("the reference's derivative, coefficient 30", ofFull[30], 31);
        CHECK.due("the reference's derivative, coefficient 31", ofFull[31], 0);
    }

    private static void degreeOfNothing() {
        CHECK.sentence("Terms", "-1 when all are 0");
        for (int s = 0; s < 5; s++) {
            World empty = new World(CHECK).with(s);
            empty.answered("degree(" + s + ") when all are set to 0", empty.x.degree(s), -1);
            World multiples = new World(CHECK).with(s, Edges.all(-12289));
            multiples.answered("degree(" + s + ") when all are set to -12289", multiples.x.degree(s), -1);
        }
        World taken = new World(CHECK);
        taken.taken("add(3, 3, -1)", taken.x.add(3, 3, -1), 3);
        CHECK.due("degree(3) after add(3, 3, -1)", taken.x.degree(3), -1);
    }

    private static void degreeIsTheLast() {
        CHECK.sentence("Terms", "Its DEGREE is the number of its last coefficient that is not 0");
        for (int n = 0; n < 32; n++) {
            World alone = new World(CHECK).with(4, Edges.term(n, 12288));
            alone.answered("degree of power " + n, alone.x.degree(4), n);
            World above = new World(CHECK).with(0, Edges.withFirst(1, Edges.term(n, 1)));
            above.answered("degree of 1 and power " + n, above.x.degree(0), n);
        }
        World full = new World(CHECK);
        full.answered("degree of a full series", full.x.degree(2), 31);
    }

    private static void enginesThereAre() {
        CHECK.sentence("Terms", "An ENGINE is a number 0 .. 4");
        for (int engine = -1; engine < 6; engine++) {
            boolean there = engine >= 0 && engine <= 4;
            SeriesSuite x = smallWorld();
            CHECK.due("multiply(" + engine + ", 2, 1)", x.multiply(engine, 2, 1), there);
            CHECK.due("agree(" + engine + ", 0, 2, 1)", x.agree(engine, 0, 2, 1), there);
            CHECK.due("agree(0, " + engine + ", 2, 1)", x.agree(0, engine, 2, 1), there);
        }
    }

    private static void noAnswerDependsOnTheEngine() {
        CHECK.sentence("Terms", "no answer depends on it");
        int[][] edges = Edges.series();
        for (int[] a : edges) {
            for (int[] b : edges) {
                int[] want = Reference.product(a, b);
                SeriesSuite x = new SeriesSuite();
                Reference.write(x, 0, a);
                Reference.write(x, 1, b);
                // In one object, so that what one engine leaves behind would show in the next.
                for (int engine = 0; engine < 5; engine++) {
                    x.copy(2, 0);
                    CHECK.due("multiply(" + engine + ", 2, 1)", x.multiply(engine, 2, 1), true);
                    CHECK.dueSeries("multiply(" + engine + ", 2, 1)", x, 2, want);
                }
            }
        }
    }
}
