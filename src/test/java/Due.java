/** Compares answers with those that are due, and ends the program with exit code 1 if one differs. */
final class Due {
    private static final int MOST_SHOWN = 20;

    private int wrong = 0;
    private int asked = 0;
    private String sentence = "";
    private int askedBefore = 0;
    private int sentences = 0;

    /** The answers from here on are due by this sentence of the document. */
    void sentence(String text) {
        endSentence();
        sentence = "[" + text + "] ";
        sentences++;
        askedBefore = asked;
    }

    private void endSentence() {
        if (sentences > 0 && asked == askedBefore) {
            wrong++;
            System.out.println(sentence + "has no test");
        }
    }

    void due(String call, long got, long want) {
        asked++;
        if (got != want) {
            wrong++;
            if (wrong <= MOST_SHOWN) {
                System.out.println(sentence + call + " answered " + got + ", due is " + want);
            }
        }
    }

    void due(String call, boolean got, boolean want) {
        due(call, got ? 1 : 0, want ? 1 : 0);
    }

    void finish() {
        endSentence();
        String about = sentences == 0 ? "" : sentences + " sentences, ";
        System.out.println(about + asked + " answers, " + wrong + " of them wrong");
        if (wrong != 0 || asked == 0) {
            System.exit(1);
        }
    }
}
