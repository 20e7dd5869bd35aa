/** Promises 1 to 5 and what cell and count say of a map: the tape, the map and its faults. */
public final class MapTest {
    private static final Check CHECK = new Check("MapTest");

    public static void main(String[] args) {
        newObject();
        feedAndBack();
        bytesOfWords();
        signsAndLengths();
        sizes();
        numbers();
        ways();
        tapeAndPlaceAfterRead();
        faultChangesNothing();
        soundMapBeginsAnew();
        cells();
        CHECK.end();
    }

    private static void newObject() {
        FleetYard yard = new FleetYard();
        int[] counts = {2, 2, 1, 1, 0, 0, 0, 0, 0, 0, 0, 0, 0};
        for (int what = 0; what < counts.length; what++) {
            CHECK.due("new: count(" + what + ")", yard.count(what), counts[what]);
        }
        CHECK.due("new: count(13)", yard.count(13), -1);
        CHECK.due("new: count(-1)", yard.count(-1), -1);
        CHECK.due("new: cell(0, 0)", yard.cell(0, 0), 3);
        CHECK.due("new: cell(1, 0)", yard.cell(1, 0), 2);
        CHECK.due("new: cell(0, 2)", yard.cell(0, 2), 0);
        CHECK.due("new: cell(1, 2)", yard.cell(1, 2), -1);
        CHECK.due("new: place()", yard.place(), -1);
        CHECK.due("new: fate(0, 15)", yard.fate(0, 15), true);
        CHECK.due("new: fate(1, 0)", yard.fate(1, 0), false);
        CHECK.due("new: vehicle(0, 7)", yard.vehicle(0, 7), 1);
        CHECK.due("new: vehicle(1, 7)", yard.vehicle(1, 7), -1);
    }

    private static void feedAndBack() {
        FleetYard yard = new FleetYard();
        CHECK.due("back(0) of nothing", yard.back(0), 0);
        CHECK.due("back(1) of nothing", yard.back(1), -1);
        for (int i = 1; i <= 20; i++) {
            CHECK.due("feed " + i, yard.feed(-1, 0, i, 7, 9), 20 * i);
        }
        CHECK.due("feed above 400", yard.feed(1, 2, 3, 4, 5), -1);
        CHECK.due("count(12)", yard.count(12), 400);
        CHECK.due("back(-1)", yard.back(-1), -1);
        CHECK.due("back(least)", yard.back(Integer.MIN_VALUE), -1);
        CHECK.due("back(401)", yard.back(401), -1);
        CHECK.due("back(greatest)", yard.back(Integer.MAX_VALUE), -1);
        CHECK.due("count(12)", yard.count(12), 400);
        CHECK.due("back(19)", yard.back(19), 381);
        CHECK.due("feed to 401", yard.feed(1, 2, 3, 4, 5), -1);
        CHECK.due("back(1)", yard.back(1), 380);
        CHECK.due("feed to 400", yard.feed(1, 2, 3, 4, 5), 400);
        CHECK.due("back(400)", yard.back(400), 0);
        CHECK.due("count(12)", yard.count(12), 0);
    }

    // The text is P.S|...|...|S.S|... and a byte too many.
    private static void bytesOfWords() {
        FleetYard yard = new FleetYard();
        CHECK.due("feed", yard.feed(0x502E530A, 0x2E2E2E0A, 0x2E2E2E0A, 0x532E530A, 0x2E2E2E53), 20);
        CHECK.due("back", yard.back(1), 19);
        CHECK.due("read()", yard.read(), 0);
        CHECK.due("cells", yard.count(0), 15);
        CHECK.due("cell(0, 0)", yard.cell(0, 0), 3);
        CHECK.due("cell(2, 0)", yard.cell(2, 0), 2);
        CHECK.due("cell(9, 0)", yard.cell(9, 0), 2);
        CHECK.due("cell(11, 0)", yard.cell(11, 0), 2);
        yard.feed(0xD02E530A, 0, 0, 0, 0);
        yard.back(16);
        CHECK.due("a byte of 208", yard.read(), 1);
        CHECK.due("its place", yard.place(), 0);
    }

    private static void judged(String text, int fault, int place) {
        FleetYard yard = new FleetYard();
        Check.write(yard, text);
        String shown = text.replace("\n", "|");
        CHECK.due("read() of " + shown, yard.read(), fault);
        CHECK.due("place() of " + shown, yard.place(), place);
    }

    private static void signsAndLengths() {
        judged("", 2, 0);
        judged("\n", 2, 0);
        judged("\nPS", 2, 0);
        judged("\n?", 2, 0);
        judged("P", 0, -1);
        judged("PS", 0, -1);
        judged("PS\n", 0, -1);
        judged("PS\n\n", 2, 3);
        judged("PS\n\n..", 2, 3);
        judged("?", 1, 0);
        judged("P?", 1, 1);
        judged("P ", 1, 1);
        judged("ps", 1, 0);
        judged("P\u0000", 1, 1);
        judged("PS\r\n", 1, 2);
        judged("P\u00ff", 1, 1);
        judged("PS\n.", 2, 4);
        judged("PS\n.\n", 2, 4);
        judged("PS\n...", 2, 5);
        judged("PS\n...?", 2, 5);
        judged("PS\n..?", 1, 5);
        judged("PS\n.?", 1, 4);
        judged("PS\n.\n?", 2, 4);
        judged("PS\n..\n.", 2, 7);
        judged("PS\n..\n", 0, -1);
    }

    private static void sizes() {
        String dots15 = ".".repeat(15);
        judged("P" + dots15, 0, -1);
        judged("P" + dots15 + ".", 3, 16);
        judged("P" + dots15 + "?", 1, 16);
        judged("P" + dots15 + "..?", 3, 16);
        judged("P" + dots15 + "\n" + dots15 + "..", 2, 33);
        judged("P" + dots15 + "\n" + dots15 + ".?", 1, 33);
        judged("P\n" + ".\n".repeat(15), 0, -1);
        judged("P\n" + ".\n".repeat(14) + ".", 0, -1);
        judged("P\n" + ".\n".repeat(15) + ".", 3, 32);
        judged("P\n" + ".\n".repeat(15) + ".\n", 3, 32);
        judged("P\n" + ".\n".repeat(15) + "\n", 2, 32);
        judged("P\n" + ".\n".repeat(15) + "?", 1, 32);
        judged("P.\n" + "..\n".repeat(15) + ".", 3, 48);
        judged("P" + dots15 + "\n" + (dots15 + ".\n").repeat(15), 0, -1);
        FleetYard yard = Check.yardOf("P" + dots15 + "\n" + (dots15 + ".\n").repeat(15));
        CHECK.due("cells of the largest map", yard.count(0), 256);
        CHECK.due("cells of its line", yard.count(1), 16);
        CHECK.due("its last cell", yard.cell(255, 0), 1);
        CHECK.due("none behind it", yard.cell(256, 0), -1);
    }

    private static void numbers() {
        judged(".", 4, 1);
        judged("S.\n", 4, 3);
        judged("#", 4, 1);
        judged("#\n", 4, 2);
        judged("PPPPPP\n......", 0, -1);
        judged("PPPPPPP\n.......", 4, 15);
        judged("PSSSSSSSSSS\n...........", 0, -1);
        judged("PSSSSSSSSSSS\n............", 4, 25);
        judged("P#P#P#P#P#P#P", 4, 13);
        judged("S#S\n", 4, 4);
    }

    private static void ways() {
        judged("P#S", 5, 0);
        judged("#P#S", 5, 1);
        judged("PSS", 5, 0);
        judged("SPS", 5, 0);
        judged("PSS\n...", 0, -1);
        judged("P.S\n###\n..S", 5, 0);
        judged("P.S\n##.\n..S", 5, 0);
        judged(".P.\nS#S", 5, 3);
        judged(".P.\nS.S", 0, -1);
        judged("#####\n#P.S#\n#####", 0, -1);
        judged("P\nS", 0, -1);
        judged("P.\n#S", 0, -1);
        judged("P#\n#S", 5, 0);
        judged("P##\n###\n###", 0, -1);
        // The end of a line and the beginning of the next one do not touch.
        judged("..P\nS##", 0, -1);
        judged("##P\nS##", 5, 2);
    }

    private static void tapeAndPlaceAfterRead() {
        FleetYard yard = new FleetYard();
        Check.write(yard, "P.?");
        CHECK.due("count(12)", yard.count(12), 3);
        CHECK.due("read()", yard.read(), 1);
        CHECK.due("count(12) behind a fault", yard.count(12), 0);
        CHECK.due("place()", yard.place(), 2);
        CHECK.due("place() again", yard.place(), 2);
        Check.write(yard, "P.");
        CHECK.due("place() ahead of read()", yard.place(), 2);
        CHECK.due("read()", yard.read(), 0);
        CHECK.due("count(12) behind a map", yard.count(12), 0);
        CHECK.due("place()", yard.place(), -1);
    }

    private static void faultChangesNothing() {
        FleetYard yard = Check.yardOf("P..S\n...S\n");
        yard.fates(5);
        yard.fate(4, 1);
        yard.task(1, 0);
        yard.run(8);
        int[] before = stateOf(yard);
        String[] faulty = {"", "P?", "PS\nP", "P" + ".".repeat(16), "SS", "P#S"};
        for (String text : faulty) {
            Check.write(yard, text);
            CHECK.due("read() has a fault", yard.read() > 0, true);
            int[] after = stateOf(yard);
            for (int i = 0; i < before.length; i++) {
                CHECK.due("state " + i + " behind the fault of " + text, after[i], before[i]);
            }
        }
        CHECK.due("fate(4, 1) is there", yard.fate(4, 1), true);
        CHECK.due("fate(5, 1) is not", yard.fate(5, 1), false);
    }

    private static int[] stateOf(FleetYard yard) {
        int[] state = new int[80];
        int n = 0;
        for (int what = 0; what <= 12; what++) {
            state[n++] = yard.count(what);
        }
        for (int what = 0; what <= 13; what++) {
            state[n++] = yard.vehicle(0, what);
        }
        for (int c = 0; c < 8; c++) {
            state[n++] = yard.cell(c, 0);
            state[n++] = yard.cell(c, 2);
            state[n++] = yard.cell(c, 7);
        }
        for (int t = 0; t < 12; t++) {
            state[n++] = yard.trip(0, t);
        }
        return state;
    }

    private static void soundMapBeginsAnew() {
        FleetYard yard = Check.yardOf("P..S\n...S\n");
        yard.fates(5);
        yard.fate(0, 8);
        yard.task(1, 0);
        yard.run(8);
        Check.write(yard, "S.S.P\n.....\n");
        CHECK.due("read()", yard.read(), 0);
        int[] counts = {10, 5, 1, 2, 0, 0, 0, 0, 0, 0, 0, 0, 0};
        for (int what = 0; what < counts.length; what++) {
            CHECK.due("anew: count(" + what + ")", yard.count(what), counts[what]);
        }
        int[] ofVehicle = {4, 0, 0, 0, 0, 0, 0, 1, 0, 0, 0, -1, 0, 0};
        for (int what = 0; what < ofVehicle.length; what++) {
            CHECK.due("anew: vehicle(0, " + what + ")", yard.vehicle(0, what), ofVehicle[what]);
        }
        CHECK.due("anew: fate(1, 0)", yard.fate(1, 0), false);
        CHECK.due("anew: told(0, 0)", yard.told(0, 0), -1);
        CHECK.due("anew: plan(0, 1, 0)", yard.plan(0, 1, 0), -1);
        CHECK.due("anew: trip(0, 3)", yard.trip(0, 3), 4);
        for (int i = 0; i < 12; i++) {
            yard.run(50);
        }
        Check.write(yard, "PS");
        CHECK.due("run(1) above 600", yard.run(1), -1);
        yard.read();
        CHECK.due("run(50) of the new map", yard.run(50), 0);
        CHECK.due("fate 0 is 0 again: none was LOST", yard.count(9), 0);
    }

    private static void cells() {
        FleetYard yard = Check.yardOf("P#S\n...\n#PS");
        int[] kinds = {3, 0, 2, 1, 1, 1, 0, 3, 2};
        int[] ordinals = {0, -1, 0, -1, -1, -1, -1, 1, 1};
        int[] inside = {0, -1, -1, -1, -1, -1, -1, 1, -1};
        int[] above = {-1, -1, -1, 0, -1, 2, 3, 4, 5};
        int[] right = {-1, 2, -1, 4, 5, -1, 7, 8, -1};
        int[] below = {3, 4, 5, -1, 7, 8, -1, -1, -1};
        int[] left = {-1, 0, -1, -1, 3, 4, -1, -1, 7};
        int[][] due = {kinds, ordinals, inside, above, right, below, left};
        for (int what = 0; what < due.length; what++) {
            for (int c = 0; c < 9; c++) {
                CHECK.due("cell(" + c + ", " + what + ")", yard.cell(c, what), due[what][c]);
            }
        }
        for (int c = 0; c < 9; c++) {
            CHECK.due("cell(" + c + ", 7)", yard.cell(c, 7), 0);
            CHECK.due("cell(" + c + ", 8)", yard.cell(c, 8), -1);
            CHECK.due("cell(" + c + ", 9)", yard.cell(c, 9), -1);
            CHECK.due("cell(" + c + ", -1)", yard.cell(c, -1), -1);
        }
        for (int what = -1; what <= 9; what++) {
            CHECK.due("cell(-1, " + what + ")", yard.cell(-1, what), -1);
            CHECK.due("cell(9, " + what + ")", yard.cell(9, what), -1);
        }
        CHECK.due("cell(least, 0)", yard.cell(Integer.MIN_VALUE, 0), -1);
        CHECK.due("cell(greatest, 3)", yard.cell(Integer.MAX_VALUE, 3), -1);
        CHECK.due("cell(0, least)", yard.cell(0, Integer.MIN_VALUE), -1);
        CHECK.due("cell(0, greatest)", yard.cell(0, Integer.MAX_VALUE), -1);
    }
}
