/** Compares answers with those that are due, prints the wrong ones and ends with exit code 1 if there was one. */
final class Check {
    private String sentence = "";
    private int wrong = 0;
    private int asked = 0;
    private int askedBefore = -1;

    /** From here on answers are checked against this sentence of the document; one that is not checked is an error. */
    void sentence(String words) {
        endSentence();
        sentence = words + ": ";
        askedBefore = asked;
    }

    void due(String call, int got, int want) {
        compare(call, got == want, String.valueOf(got), String.valueOf(want));
    }

    void due(String call, boolean got, boolean want) {
        compare(call, got == want, String.valueOf(got), String.valueOf(want));
    }

    void finish() {
        endSentence();
        System.out.println(asked + " answers, " + wrong + " not as due");
        if (asked == 0 || wrong != 0) {
            System.exit(1);
        }
    }

    private void compare(String call, boolean right, String got, String want) {
        asked++;
        if (!right) {
            wrong++;
            System.out.println(sentence + call + " answered " + got + ", due is " + want);
        }
    }

    private void endSentence() {
        if (asked == askedBefore) {
            wrong++;
            System.out.println(sentence + "nothing was asked");
        }
    }
}
