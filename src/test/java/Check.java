/** Counts and prints the answers that are not the ones due. */
final class Check {
    private static final int MOST_PRINTED = 40;

    private final String test;
    private int made;
    private int wrong;

    Check(String test) {
        this.test = test;
    }

    void due(String call, int got, int want) {
        made++;
        if (got != want) {
            wrong++;
            if (wrong <= MOST_PRINTED) {
                System.out.println(call + " answered " + got + ", due is " + want);
            }
        }
    }

    void due(String call, boolean got, boolean want) {
        due(call, got ? 1 : 0, want ? 1 : 0);
    }

    boolean allRight() {
        return wrong == 0;
    }

    void end() {
        System.out.println(test + ": " + made + " answers, " + wrong + " not as due");
        if (wrong != 0) {
            System.exit(1);
        }
    }

    /** Puts the text on the tape: whole words of five, and what is too much goes back again. */
    static void write(FleetYard yard, String text) {
        for (int i = 0; i < text.length(); i += 20) {
            yard.feed(word(text, i), word(text, i + 4), word(text, i + 8), word(text, i + 12),
                    word(text, i + 16));
        }
        yard.back((20 - text.length() % 20) % 20);
    }

    static int word(String text, int at) {
        int word = 0;
        for (int i = at; i < at + 4; i++) {
            word = word << 8 | (i < text.length() ? text.charAt(i) & 255 : 0);
        }
        return word;
    }

    static FleetYard yardOf(String text) {
        FleetYard yard = new FleetYard();
        write(yard, text);
        yard.read();
        return yard;
    }
}
