/** Promises 2 and 3: what feed puts on the tape and back takes off it. */
public final class TapeTest {
    private static final Check CHECK = new Check("TapeTest");
    private static final int LEAST = Integer.MIN_VALUE;
    private static final int GREATEST = Integer.MAX_VALUE;

    public static void main(String[] args) {
        howManyItHas();
        highestByteFirst();
        wordsInHex();
        everyByteValue();
        behindTheTape();
        moreThanFourHundred();
        nothingComes();
        lastBytesGo();
        asManyAsItHas();
        notSoMany();
        belowZero();
        CHECK.end();
    }

    private static void howManyItHas() {
        CHECK.about("Promise 2: twenty bytes come behind the tape: how many it has");
        Yard yard = new Yard();
        for (int i = 1; i <= 20; i++) {
            CHECK.due("feed " + i, yard.feed(LEAST, -1, 0, i, GREATEST), 20 * i);
            CHECK.due("count(12)", yard.count(12), 20 * i);
        }
    }

    // A wrong sign at each place in turn: its FAULT tells where the byte went.
    private static void highestByteFirst() {
        CHECK.about("Promise 2: twenty bytes, the highest of a first");
        String text = "P...\n....\n....\n....\n";
        for (int i = 0; i < 20; i++) {
            int[] w = new int[5];
            for (int j = 0; j < 20; j++) {
                int sign = j == i ? 0xFF : text.charAt(j);
                w[j / 4] |= sign << 24 - 8 * (j % 4);
            }
            Yard yard = new Yard();
            CHECK.due("feed", yard.feed(w[0], w[1], w[2], w[3], w[4]), 20);
            CHECK.due("read() with a wrong byte " + i, yard.read(), 1);
            CHECK.due("place() of the wrong byte " + i, yard.place(), i);
        }
    }

    // P.S|...|...|S.S|... and a byte too many.
    private static void wordsInHex() {
        CHECK.about("Promise 2: the bytes of a, b, c, d, e in their order");
        Yard yard = new Yard();
        CHECK.due("feed", yard.feed(0x502E530A, 0x2E2E2E0A, 0x2E2E2E0A, 0x532E530A, 0x2E2E2E53), 20);
        CHECK.due("back(1)", yard.back(1), 19);
        CHECK.due("read()", yard.read(), 0);
        CHECK.due("cells", yard.count(0), 15);
        int[] kinds = {3, 1, 2, 1, 1, 1, 1, 1, 1, 2, 1, 2, 1, 1, 1};
        for (int c = 0; c < kinds.length; c++) {
            CHECK.due("cell(" + c + ", 0)", yard.cell(c, 0), kinds[c]);
        }
    }

    private static void everyByteValue() {
        CHECK.about("Part I, FAULT 1: a byte that is none of # . S P and 10, of all 256 there are");
        for (int value = 0; value < 256; value++) {
            boolean right = value == 10 || value == '#' || value == '.' || value == 'S' || value == 'P';
            Yard yard = new Yard();
            yard.feed('P' << 24 | value << 16, 0, 0, 0, 0);
            yard.back(18);
            CHECK.due("read() of P and byte " + value, yard.read(), right ? 0 : 1);
            CHECK.due("place()", yard.place(), right ? -1 : 1);
        }
    }

    private static void behindTheTape() {
        CHECK.about("Promise 2: the bytes come behind those that are there");
        Yard yard = new Yard();
        yard.write("P...");
        CHECK.due("count(12)", yard.count(12), 4);
        yard.write("...\n..");
        CHECK.due("count(12)", yard.count(12), 10);
        yard.write("S....");
        CHECK.due("count(12)", yard.count(12), 15);
        CHECK.due("read()", yard.read(), 0);
        CHECK.due("cells of a LINE", yard.count(1), 7);
        CHECK.due("CELLS", yard.count(0), 14);
        CHECK.due("the STATION", yard.cell(9, 0), 2);
    }

    private static void moreThanFourHundred() {
        CHECK.about("Promise 2: NONE if it would have more than 400");
        for (int there = 378; there <= 400; there++) {
            Yard yard = new Yard();
            yard.write(".".repeat(there));
            boolean fits = there <= 380;
            CHECK.due("feed with " + there, yard.feed(1, 2, 3, 4, 5), fits ? there + 20 : -1);
            CHECK.due("count(12) behind it", yard.count(12), fits ? there + 20 : there);
        }
    }

    private static void nothingComes() {
        CHECK.about("Promise 2: NONE, and nothing comes");
        int[] lengths = {381, 390, 399, 400};
        for (int there : lengths) {
            Yard yard = new Yard();
            yard.write("PS" + ".".repeat(there - 2));
            for (int i = 0; i < 3; i++) {
                CHECK.due("feed with " + there, yard.feed(-1, -1, -1, -1, -1), -1);
            }
            CHECK.due("back", yard.back(there - 2), 2);
            CHECK.due("the tape is PS: read()", yard.read(), 0);
            CHECK.due("CELLS", yard.count(0), 2);
        }
        Yard yard = new Yard();
        yard.write(".".repeat(381));
        yard.feed(1, 2, 3, 4, 5);
        CHECK.due("back(1)", yard.back(1), 380);
        CHECK.due("feed to 400", yard.feed(1, 2, 3, 4, 5), 400);
    }

    private static void lastBytesGo() {
        CHECK.about("Promise 3: the last n bytes of the tape go: how many it has");
        int[] cells = {2, 3, 4, 5};
        for (int n : cells) {
            Yard yard = new Yard();
            yard.feed(0x50532E23, 0x2E2E2E2E, 0x2E2E2E2E, 0x2E2E2E2E, 0x2E2E2E2E);
            CHECK.due("back(" + (20 - n) + ")", yard.back(20 - n), n);
            CHECK.due("count(12)", yard.count(12), n);
            CHECK.due("read()", yard.read(), 0);
            CHECK.due("the first " + n + " are left", yard.count(0), n);
            CHECK.due("cell(0, 0)", yard.cell(0, 0), 3);
            CHECK.due("cell(1, 0)", yard.cell(1, 0), 2);
        }
        Yard yard = new Yard();
        yard.write("PS..");
        CHECK.due("back(1)", yard.back(1), 3);
        CHECK.due("back(1) again", yard.back(1), 2);
        CHECK.due("back(0)", yard.back(0), 2);
        yard.write("\n#.");
        CHECK.due("what came behind it: read()", yard.read(), 0);
        CHECK.due("CELLS", yard.count(0), 4);
        CHECK.due("a WALL", yard.cell(2, 0), 0);
    }

    private static void asManyAsItHas() {
        CHECK.about("Promise 3: all bytes may go, and none");
        Yard yard = new Yard();
        CHECK.due("back(0) of none", yard.back(0), 0);
        yard.write("PS.");
        CHECK.due("back(3) of 3", yard.back(3), 0);
        CHECK.due("count(12)", yard.count(12), 0);
        yard.write(".".repeat(400));
        CHECK.due("back(400) of 400", yard.back(400), 0);
        CHECK.due("an empty tape: read()", yard.read(), 2);
    }

    private static void notSoMany() {
        CHECK.about("Promise 3: NONE, and nothing goes, if it has not so many");
        Yard yard = new Yard();
        CHECK.due("back(1) of none", yard.back(1), -1);
        yard.write("PS");
        int[] tooMany = {3, 4, 20, 400, 401, GREATEST};
        for (int n : tooMany) {
            CHECK.due("back(" + n + ") of 2", yard.back(n), -1);
            CHECK.due("count(12)", yard.count(12), 2);
        }
        CHECK.due("read()", yard.read(), 0);
        yard.write(".".repeat(400));
        CHECK.due("back(401) of 400", yard.back(401), -1);
        CHECK.due("count(12)", yard.count(12), 400);
    }

    private static void belowZero() {
        CHECK.about("Promise 3: NONE, and nothing goes, if n is below 0");
        Yard yard = new Yard();
        CHECK.due("back(-1) of none", yard.back(-1), -1);
        yard.write("PS");
        int[] below = {-1, -2, -20, -GREATEST, LEAST};
        for (int n : below) {
            CHECK.due("back(" + n + ")", yard.back(n), -1);
            CHECK.due("count(12)", yard.count(12), 2);
        }
        CHECK.due("read()", yard.read(), 0);
        CHECK.due("CELLS", yard.count(0), 2);
    }
}
