/**
 * One object, with the five series that it must hold.
 * Each judged call is followed by a look at all 160 coefficients, so that a change elsewhere shows too.
 */
final class World {
    private static final int CALLS = 512;

    final SeriesSuite x = new SeriesSuite();
    private final Check check;
    private final int[][] want = new int[5][32];
    private int calls = 0;

    /** Five different series to begin with, none of whose coefficients is 0. */
    World(Check check) {
        this.check = check;
        for (int s = 0; s < 5; s++) {
            x.fill(s, 0, 7 + s, 11 + s);
            count(1);
            int term = 7 + s;
            for (int n = 0; n < 32; n++) {
                want[s][n] = term;
                term = term * (11 + s) % Reference.P;
            }
        }
    }

    /** Series s is these coefficients, and 0 for those missing at the end. */
    World with(int s, int... a) {
        Reference.write(x, s, a);
        count(32);
        for (int n = 0; n < 32; n++) {
            want[s][n] = n < a.length ? Reference.mod(a[n]) : 0;
        }
        return this;
    }

    int[] series(int s) {
        return want[s].clone();
    }

    /** The call was taken, and series s has become this, the others nothing else. */
    void taken(String call, boolean got, int s, int... becomes) {
        check.due(call, got, true);
        for (int n = 0; n < 32; n++) {
            want[s][n] = n < becomes.length ? becomes[n] : 0;
        }
        lookAtAll(call);
    }

    void refused(String call, boolean got) {
        check.due(call, got, false);
        lookAtAll(call);
    }

    void refused(String call, int got) {
        check.due(call, got, -2);
        lookAtAll(call);
    }

    void answered(String call, long got, long due) {
        check.due(call, got, due);
        lookAtAll(call);
    }

    void answered(String call, boolean got, boolean due) {
        check.due(call, got, due);
        lookAtAll(call);
    }

    private void lookAtAll(String call) {
        count(1);
        for (int s = 0; s < 5; s++) {
            check.dueSeries(call, x, s, want[s]);
            count(32);
        }
    }

    /** What an object answers after its 512th call is free, so a test that goes further proves nothing. */
    private void count(int more) {
        calls += more;
        if (calls > CALLS) {
            throw new IllegalStateException("this test makes more than " + CALLS + " calls");
        }
    }
}
