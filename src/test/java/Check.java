/** Counts and prints the answers that are not the ones due; finish() ends the test with its exit code. */
final class Check {
    /** Enough to see what is wrong: a broken sum can make a hundred thousand answers wrong. */
    private static final int PRINTED = 20;

    private int asked = 0;
    private int wrong = 0;
    private int sentences = 0;
    private int askedBefore = 0;
    private int wrongBefore = 0;
    private String sentence = "";

    /** The answers from here on belong to this sentence of the document; it must have at least one. */
    void sentence(String where, String words) {
        endSentence();
        sentences++;
        sentence = where + ", \"" + words + "\": ";
        askedBefore = asked;
        wrongBefore = wrong;
    }

    private void endSentence() {
        if (!sentence.isEmpty() && asked == askedBefore) {
            wrong++;
            System.out.println(sentence + "nothing was asked");
        }
        if (wrong - wrongBefore > PRINTED) {
            System.out.println(sentence + (wrong - wrongBefore - PRINTED) + " more were not as due");
        }
    }

    void due(String call, long got, long want) {
        asked++;
        if (got != want) {
            wrong++;
            if (wrong - wrongBefore <= PRINTED) {
                System.out.println(sentence + call + " answered " + got + ", due is " + want);
            }
        }
    }

    void due(String call, boolean got, boolean want) {
        due(call, got ? 1L : 0L, want ? 1L : 0L);
    }

    /** Whether series s has exactly the coefficients of want, of which those missing at the end are 0. */
    void dueSeries(String call, SeriesSuite x, int s, int... want) {
        for (int i = 0; i < 32; i++) {
            due(call + ", then coefficient(" + s + ", " + i + ")", x.coefficient(s, i), i < want.length ? want[i] : 0);
        }
    }

    void finish() {
        endSentence();
        String of = sentences == 0 ? "" : sentences + " sentences, ";
        System.out.println(of + asked + " answers, " + wrong + " not as due");
        if (wrong != 0) {
            System.exit(1);
        }
    }
}
