/**
 * A FleetYard as the tests use it. The document leaves free what an object answers behind its
 * 512th call, so a test that goes on longer is itself wrong, and ends here.
 */
final class Yard {
    static final int PROMISED_CALLS = 512;
    private static final int BYTES_OF_A_FEED = 20;

    private final FleetYard yard = new FleetYard();
    private int calls;

    static Yard of(String text) {
        Yard made = new Yard();
        made.write(text);
        made.read();
        return made;
    }

    int callsLeft() {
        return PROMISED_CALLS - calls;
    }

    private FleetYard called() {
        calls++;
        if (calls > PROMISED_CALLS) {
            throw new IllegalStateException("this test calls one object more than 512 times");
        }
        return yard;
    }

    /** Puts the text behind the tape: what is too much of the last feed goes back again. */
    void write(String text) {
        for (int i = 0; i < text.length(); i += BYTES_OF_A_FEED) {
            int there = feed(word(text, i), word(text, i + 4), word(text, i + 8), word(text, i + 12),
                    word(text, i + 16));
            if (there == FleetYard.NONE) {
                throw new IllegalStateException("this test's text does not go on the tape");
            }
        }
        int tooMuch = Math.floorMod(-text.length(), BYTES_OF_A_FEED);
        if (tooMuch > 0) {
            back(tooMuch);
        }
    }

    static int word(String text, int at) {
        int word = 0;
        for (int i = at; i < at + 4; i++) {
            word = word << 8 | (i < text.length() ? text.charAt(i) & 255 : 0);
        }
        return word;
    }

    /** Sets the FATES to this row. */
    void row(int... fates) {
        fates(fates.length);
        for (int i = 0; i < fates.length; i++) {
            if (fates[i] != 0) {
                fate(i, fates[i]);
            }
        }
    }

    /** As many TICKS as wanted, in as few calls as there can be: how many TASKS were FINISHED. */
    int ticks(int n) {
        int finished = 0;
        for (int left = n; left > 0; left -= 50) {
            finished += run(Math.min(left, 50));
        }
        return finished;
    }

    int feed(int a, int b, int c, int d, int e) {
        return called().feed(a, b, c, d, e);
    }

    int back(int n) {
        return called().back(n);
    }

    int read() {
        return called().read();
    }

    int place() {
        return called().place();
    }

    boolean fates(int n) {
        return called().fates(n);
    }

    boolean fate(int i, int f) {
        return called().fate(i, f);
    }

    int task(int a, int b) {
        return called().task(a, b);
    }

    int run(int n) {
        return called().run(n);
    }

    int cell(int c, int what) {
        return called().cell(c, what);
    }

    int vehicle(int v, int what) {
        return called().vehicle(v, what);
    }

    int trip(int v, int t) {
        return called().trip(v, t);
    }

    int plan(int v, int i, int what) {
        return called().plan(v, i, what);
    }

    int told(int task, int what) {
        return called().told(task, what);
    }

    int count(int what) {
        return called().count(what);
    }
}
