/** Counts the answers that are not as due, prints the first of them, and ends the test. */
final class Check {
    private static final int PRINTED_AT_MOST = 40;

    private int asked = 0;
    private int wrong = 0;
    private int askedBeforeSentence = 0;
    private String sentence = "";

    /** What follows, up to the next sentence, tests this sentence of the document. */
    void sentence(String words) {
        endSentence();
        sentence = words;
        askedBeforeSentence = asked;
    }

    void due(String call, long got, long want) {
        asked++;
        if (got != want) {
            wrong(call + " answered " + got + ", due is " + want);
        }
    }

    void due(String call, int[] got, int[] want) {
        due(call + ": how many", got.length, want.length);
        for (int i = 0; i < Math.min(got.length, want.length); i++) {
            due(call + ": number " + i, got[i], want[i]);
        }
    }

    void holds(String what, boolean holds) {
        due(what, holds ? 1 : 0, 1);
    }

    void finish() {
        endSentence();
        if (asked == 0) {
            wrong("nothing was asked");
        }
        System.out.println(wrong == 0 ? "all " + asked + " answers are as due" : wrong + " of " + asked + " answers are not as due");
        if (wrong != 0) {
            System.exit(1);
        }
    }

    private void endSentence() {
        if (!sentence.isEmpty() && asked == askedBeforeSentence) {
            wrong("nothing was asked");
        }
    }

    private void wrong(String what) {
        wrong++;
        if (wrong <= PRINTED_AT_MOST) {
            System.out.println(sentence.isEmpty() ? what : "\"" + sentence + "\": " + what);
        }
    }
}
