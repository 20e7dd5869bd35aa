/** Counts and prints the answers that are not the ones due. */
final class Check {
    private static final int MOST_PRINTED = 40;

    private final String test;
    private String sentence = "";
    private int sentences;
    private int made;
    private int wrong;

    Check(String test) {
        this.test = test;
    }

    /** What follows, until the next call of this, holds the class to these words of the document. */
    void about(String words) {
        sentence = words;
        sentences++;
    }

    void due(String call, int got, int want) {
        made++;
        if (got != want) {
            wrong++;
            if (wrong <= MOST_PRINTED) {
                System.out.println("[" + sentence + "] " + call + " answered " + got + ", due is " + want);
            }
        }
    }

    void due(String call, boolean got, boolean want) {
        due(call, got ? 1 : 0, want ? 1 : 0);
    }

    boolean allRight() {
        return wrong == 0;
    }

    void end() {
        System.out.println(test + ": " + sentences + " sentences, " + made + " answers, " + wrong
                + " not as due");
        if (wrong != 0 || made == 0) {
            System.exit(1);
        }
    }
}
