/** Counts and prints the answers that are not the ones due; finish() ends the test with its exit code. */
final class Check {
    private int asked = 0;
    private int wrong = 0;

    void due(String call, long got, long want) {
        asked++;
        if (got != want) {
            wrong++;
            System.out.println(call + " answered " + got + ", due is " + want);
        }
    }

    void due(String call, boolean got, boolean want) {
        due(call, got ? 1L : 0L, want ? 1L : 0L);
    }

    /** Whether series s has exactly the coefficients of want, of which those missing at the end are 0. */
    void dueSeries(String call, SeriesSuite x, int s, int... want) {
        for (int i = 0; i < 32; i++) {
            due(call + ", then coefficient(" + s + ", " + i + ")", x.coefficient(s, i), i < want.length ? want[i] : 0);
        }
    }

    void finish() {
        System.out.println(asked + " answers, " + wrong + " not as due");
        if (wrong != 0) {
            System.exit(1);
        }
    }
}
