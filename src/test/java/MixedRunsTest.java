/** Runs of 512 mixed calls, all 18 promises together, each answer held against the reference. */
public final class MixedRunsTest {
    private static final int RUNS = 400;
    private static final int CALLS = 512;
    private static final int CELLS = 160;
    private static final Check CHECK = new Check();

    private final SeriesSuite x = new SeriesSuite();
    private final int[][] want = new int[5][32];
    private final Numbers numbers;
    private final int run;

    private MixedRunsTest(int run) {
        this.run = run;
        numbers = new Numbers(run);
    }

    public static void main(String[] args) {
        for (int run = 0; run < RUNS; run++) {
            MixedRunsTest mixed = new MixedRunsTest(run);
            // Every other run ends with a look at all coefficients, which the 512 calls must leave room for.
            boolean looks = run % 2 == 1;
            for (int call = 0; call < (looks ? CALLS - CELLS : CALLS); call++) {
                mixed.callOne();
            }
            if (looks) {
                mixed.lookAtAll();
            }
        }
        CHECK.finish();
    }

    private int maybeOutside(int count) {
        return numbers.below(40) == 0 ? numbers.intOrEdge() : numbers.below(count);
    }

    private static boolean inside(int v, int count) {
        return v >= 0 && v < count;
    }

    private void callOne() {
        int s = maybeOutside(5);
        int t = numbers.below(4) == 0 ? s : maybeOutside(5);
        switch (numbers.below(4)) {
            case 0:
                change(s);
                break;
            case 1:
                combine(s, t);
                break;
            case 2:
                solve(s);
                break;
            default:
                look(s);
                break;
        }
    }

    private void lookAtAll() {
        for (int s = 0; s < 5; s++) {
            CHECK.dueSeries("run " + run + " at its end", x, s, want[s]);
        }
    }

    private void change(int s) {
        int i = numbers.below(4) == 0 ? numbers.below(2) * 31 : maybeOutside(32);
        int v = numbers.below(4) == 0 ? 0 : numbers.intOrEdge();
        int w = numbers.intOrEdge();
        boolean fine = inside(s, 5) && inside(i, 32);
        if (numbers.below(2) == 0) {
            // Often what log, exp and root start with, so that they aren't refused all the time.
            boolean start = numbers.below(2) == 0;
            int place = start && fine ? 0 : i;
            int first = start ? numbers.below(2) : v;
            due("set(" + s + ", " + place + ", " + first + ")", x.set(s, place, first), fine);
            if (fine) {
                want[s][place] = Reference.mod(first);
            }
            return;
        }
        due("fill(" + s + ", " + i + ", " + v + ", " + w + ")", x.fill(s, i, v, w), fine);
        if (fine) {
            want[s][i] = Reference.mod(v);
            for (int n = i + 1; n < 32; n++) {
                want[s][n] = Reference.mod((long) want[s][n - 1] * w);
            }
        }
    }

    private void combine(int s, int t) {
        boolean fine = inside(s, 5) && inside(t, 5);
        String pair = s + ", " + t + ")";
        int engine = maybeOutside(5);
        int v = numbers.intOrEdge();
        int[] a = fine ? want[s] : null;
        int[] b = fine ? want[t] : null;
        switch (numbers.below(6)) {
            case 0:
                keep("copy(" + pair, x.copy(s, t), fine, s, fine ? b.clone() : null);
                break;
            case 1:
                keep("add(" + pair + " times " + v, x.add(s, t, v), fine, s, fine ? Reference.sum(a, b, v) : null);
                break;
            case 2:
                fine = fine && inside(engine, 5);
                keep("multiply(" + engine + ", " + pair, x.multiply(engine, s, t), fine, s,
                        fine ? Reference.product(a, b) : null);
                break;
            case 3:
                int other = maybeOutside(5);
                due("agree(" + engine + ", " + other + ", " + pair, x.agree(engine, other, s, t),
                        fine && inside(engine, 5) && inside(other, 5));
                break;
            case 4:
                keep("cross(" + pair, x.cross(s, t), fine, s, fine ? Reference.cross(a, b) : null);
                break;
            default:
                fine = fine && Reference.degree(b) >= 0;
                keep("rest(" + pair, x.rest(s, t), fine, s, fine ? Reference.rest(a, b) : null);
                break;
        }
    }

    private void solve(int s) {
        int first = inside(s, 5) ? want[s][0] : -1;
        int v = numbers.intOrEdge();
        boolean fine;
        switch (numbers.below(5)) {
            case 0:
                fine = first > 0;
                keep("invert(" + s + ")", x.invert(s), fine, s, fine ? Reference.invert(want[s]) : null);
                break;
            case 1:
                fine = first == 1;
                keep("log(" + s + ")", x.log(s), fine, s, fine ? Reference.log(want[s]) : null);
                break;
            case 2:
                fine = first == 0;
                keep("exp(" + s + ")", x.exp(s), fine, s, fine ? Reference.exp(want[s]) : null);
                break;
            case 3:
                fine = first == 1;
                keep("root(" + s + ")", x.root(s), fine, s, fine ? Reference.root(want[s]) : null);
                break;
            default:
                fine = first >= 0;
                keep("shift(" + s + ", " + v + ")", x.shift(s, v), fine, s, fine ? Reference.shift(want[s], v) : null);
                break;
        }
    }

    private void look(int s) {
        int i = maybeOutside(32);
        int v = numbers.intOrEdge();
        boolean fine = inside(s, 5);
        switch (numbers.below(3)) {
            case 0:
                due("coefficient(" + s + ", " + i + ")", x.coefficient(s, i), fine && inside(i, 32) ? want[s][i] : -2);
                break;
            case 1:
                due("degree(" + s + ")", x.degree(s), fine ? Reference.degree(want[s]) : -2);
                break;
            default:
                due("value(" + s + ", " + v + ")", x.value(s, v), fine ? Reference.value(want[s], v) : -2);
                break;
        }
    }

    private void keep(String call, boolean got, boolean fine, int s, int[] becomes) {
        due(call, got, fine);
        if (fine) {
            want[s] = becomes;
        }
    }

    private void due(String call, boolean got, boolean wanted) {
        CHECK.due("run " + run + ": " + call, got, wanted);
    }

    private void due(String call, int got, int wanted) {
        CHECK.due("run " + run + ": " + call, got, wanted);
    }
}
