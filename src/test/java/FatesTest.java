/** Promises 6 and 7: the row of FATES, as calls set it. What FATES do is RadioTest's. */
public final class FatesTest {
    private static final Check CHECK = new Check("FatesTest");
    private static final int LEAST = Integer.MIN_VALUE;
    private static final int GREATEST = Integer.MAX_VALUE;
    private static final int LOST = 1;

    public static void main(String[] args) {
        oneToSixtyFour();
        anotherNumber();
        allBecomeZero();
        shorterAndLongerAgain();
        anotherNumberChangesNothing();
        everyFate();
        noneSuch();
        notASixteenth();
        refusedFateChangesNothing();
        oneFateAlone();
        CHECK.end();
    }

    private static void oneToSixtyFour() {
        CHECK.about("Promise 6: FATES become n times 0 (n 1 .. 64): true");
        Yard yard = new Yard();
        for (int n = 1; n <= 64; n++) {
            CHECK.due("fates(" + n + ")", yard.fates(n), true);
            CHECK.due("the last of " + n, yard.fate(n - 1, 3), true);
            CHECK.due("none behind " + n, yard.fate(n, 3), false);
        }
        for (int n = 64; n >= 1; n--) {
            CHECK.due("fates(" + n + ")", yard.fates(n), true);
            CHECK.due("the last of " + n, yard.fate(n - 1, 3), true);
            CHECK.due("none behind " + n, yard.fate(n, 3), false);
        }
    }

    private static void anotherNumber() {
        CHECK.about("Promise 6: false for another n");
        Yard yard = new Yard();
        int[] wrong = {0, -1, 65, 66, -64, 128, LEAST, LEAST + 1, GREATEST};
        for (int n : wrong) {
            CHECK.due("fates(" + n + ")", yard.fates(n), false);
            CHECK.due("FATE 0 is there", yard.fate(0, 0), true);
            CHECK.due("FATE 1 is not", yard.fate(1, 0), false);
        }
    }

    // One VEHICLE without a TASK sends message m in TICK 2 m.
    private static void lostAre(Yard yard, int messages, int lost) {
        yard.ticks(2 * messages);
        CHECK.due("sent", yard.count(8), messages);
        CHECK.due("LOST", yard.count(9), lost);
    }

    private static void allBecomeZero() {
        CHECK.about("Promise 6: FATES become n times 0: those that were there too");
        Yard one = new Yard();
        one.fate(0, LOST);
        one.fates(1);
        lostAre(one, 5, 0);
        Yard three = new Yard();
        three.row(LOST, LOST, LOST);
        three.fates(3);
        lostAre(three, 9, 0);
        Yard most = new Yard();
        most.fates(64);
        for (int i = 0; i < 64; i++) {
            most.fate(i, LOST);
        }
        most.fates(64);
        lostAre(most, 64, 0);
    }

    private static void shorterAndLongerAgain() {
        CHECK.about("Promise 6: FATES become n times 0: nothing is left of a longer row");
        Yard yard = new Yard();
        yard.fates(64);
        for (int i = 0; i < 64; i++) {
            yard.fate(i, LOST);
        }
        yard.fates(1);
        CHECK.due("fate(1, 0)", yard.fate(1, 0), false);
        yard.fates(64);
        lostAre(yard, 65, 0);
    }

    private static void anotherNumberChangesNothing() {
        CHECK.about("Promise 6: false for another n, and FATES are what they were");
        int[] wrong = {0, -1, 65, LEAST, GREATEST};
        for (int n : wrong) {
            Yard yard = new Yard();
            yard.row(0, LOST);
            CHECK.due("fates(" + n + ")", yard.fates(n), false);
            lostAre(yard, 7, 3);
            CHECK.due("FATE 1 is there", yard.fate(1, 0), true);
            CHECK.due("FATE 2 is not", yard.fate(2, 0), false);
        }
    }

    private static void everyFate() {
        CHECK.about("Promise 7: FATE i becomes f: true");
        Yard yard = new Yard();
        yard.fates(3);
        for (int i = 0; i < 3; i++) {
            for (int f = 0; f <= 15; f++) {
                CHECK.due("fate(" + i + ", " + f + ")", yard.fate(i, f), true);
            }
        }
        Yard most = new Yard();
        most.fates(64);
        for (int i = 0; i < 64; i++) {
            CHECK.due("fate(" + i + ", 15)", most.fate(i, 15), true);
        }
    }

    private static void noneSuch() {
        CHECK.about("Promise 7: false, if there is none such");
        int[] lengths = {1, 2, 63, 64};
        for (int n : lengths) {
            Yard yard = new Yard();
            yard.fates(n);
            int[] none = {-1, n, n + 1, 64, 65, LEAST, GREATEST};
            for (int i : none) {
                CHECK.due("fate(" + i + ", 0) of " + n, yard.fate(i, 0), false);
                CHECK.due("fate(" + i + ", 1) of " + n, yard.fate(i, 1), false);
            }
            CHECK.due("the last of " + n, yard.fate(n - 1, 0), true);
        }
    }

    private static void notASixteenth() {
        CHECK.about("Promise 7: false, if f is not 0 .. 15");
        Yard yard = new Yard();
        yard.fates(2);
        int[] wrong = {-1, 16, 17, -16, 256, LEAST, GREATEST};
        for (int f : wrong) {
            CHECK.due("fate(0, " + f + ")", yard.fate(0, f), false);
            CHECK.due("fate(1, " + f + ")", yard.fate(1, f), false);
            CHECK.due("fate(2, " + f + ")", yard.fate(2, f), false);
        }
        CHECK.due("fate(0, 0)", yard.fate(0, 0), true);
        CHECK.due("fate(0, 15)", yard.fate(0, 15), true);
    }

    private static void refusedFateChangesNothing() {
        CHECK.about("Promise 7: false, and FATES are what they were");
        Yard lost = new Yard();
        lost.row(LOST, 0);
        int[] wrong = {-1, 16, -2, LEAST, GREATEST};
        for (int f : wrong) {
            lost.fate(0, f);
            lost.fate(1, f);
        }
        int[] none = {-1, 2, 3, LEAST, GREATEST};
        for (int i : none) {
            lost.fate(i, LOST);
            lost.fate(i, 0);
        }
        lostAre(lost, 7, 4);
        lost.fates(3);
        lost.ticks(12);
        CHECK.due("nor is one kept for a longer row", lost.count(9), 4);
    }

    private static void oneFateAlone() {
        CHECK.about("Promise 7: FATE i becomes f, no other one");
        for (int i = 0; i < 5; i++) {
            Yard yard = new Yard();
            yard.fates(5);
            yard.fate(i, LOST);
            for (int m = 0; m < 10; m++) {
                int before = m <= i ? 0 : m <= i + 5 ? 1 : 2;
                CHECK.due("FATE " + i + ", LOST ahead of message " + m, yard.count(9), before);
                yard.run(2);
            }
            CHECK.due("FATE " + i + ", LOST of ten", yard.count(9), 2);
            yard.fate(i, 0);
            yard.ticks(20);
            CHECK.due("FATE " + i + " is 0 again", yard.count(9), 2);
        }
    }
}
