/** Part I: the MAP, its CELLS and NEIGHBOURS, and its FAULTS 1 to 5 with their places. */
public final class MapTest {
    private static final Check CHECK = new Check("MapTest");
    private static final String DOTS15 = ".".repeat(15);
    private static final String DOTS16 = ".".repeat(16);

    public static void main(String[] args) {
        lastLineEndsOrNot();
        wrongSign();
        lineTooLong();
        lineTooShort();
        firstLineEmpty();
        seventeenthLine();
        seventeenthByte();
        firstByPlace();
        leastOfOnePlace();
        faultsOfBytesAheadOfOthers();
        parkings();
        stations();
        placeOfFaultFour();
        faultFourAheadOfFive();
        wayWithoutCellsBetween();
        wayAroundWalls();
        wayPassesNoEndpoint();
        firstOfTheFirstTwo();
        linesDoNotTouchAtTheirEnds();
        oneEndpoint();
        longestText();
        cellsLineByLine();
        endpointsByTheirCells();
        neighbours();
        neighboursOfSmallMaps();
        neighboursInTheLargestMap();
        CHECK.end();
    }

    private static void judged(String text, int fault, int place) {
        Yard yard = new Yard();
        yard.write(text);
        String shown = text.replace("\n", "|");
        CHECK.due("read() of " + shown, yard.read(), fault);
        CHECK.due("place() of " + shown, yard.place(), place);
    }

    private static void sound(String text) {
        judged(text, 0, -1);
    }

    private static void lastLineEndsOrNot() {
        CHECK.about("LINES of signs with byte 10 behind each (behind the last one or not)");
        sound("P");
        sound("P\n");
        sound("PS");
        sound("PS\n");
        sound("PS\n..");
        sound("PS\n..\n");
        judged("PS\n..\n\n", 2, 6);
        Yard yard = Yard.of("PS\n..\n");
        CHECK.due("no LINE behind the last byte 10", yard.count(0), 4);
    }

    private static void wrongSign() {
        CHECK.about("FAULT 1 at the first byte that is no such sign");
        judged("?", 1, 0);
        judged("P?", 1, 1);
        judged("P?S?", 1, 1);
        judged("??", 1, 0);
        judged("PS\n?.", 1, 3);
        judged("PS\n.?", 1, 4);
        judged("PS\n..\n.?\n?.", 1, 7);
        judged("ps", 1, 0);
        judged("PS\r\n", 1, 2);
        judged("P\u0000", 1, 1);
        judged("P ", 1, 1);
        judged("P\u00d0", 1, 1);
        judged("P\u008a", 1, 1);
    }

    private static void lineTooLong() {
        CHECK.about("FAULT 2 at the first byte by which a LINE is longer than the first one");
        sound("PS\n..");
        judged("PS\n...", 2, 5);
        judged("PS\n....", 2, 5);
        judged("PS\n...\n", 2, 5);
        judged("PS\n..\n...", 2, 8);
        judged("PS\n...\n....", 2, 5);
        judged("P\n..", 2, 3);
        judged("P" + DOTS15.substring(1) + "\n" + DOTS16, 2, 31);
    }

    private static void lineTooShort() {
        CHECK.about("FAULT 2 at the end (byte 10, the text's end) of the first LINE that is shorter");
        judged("PS\n.", 2, 4);
        judged("PS\n.\n", 2, 4);
        judged("PS\n.\n..", 2, 4);
        judged("PS\n\n", 2, 3);
        judged("PS\n\n..", 2, 3);
        judged("PS\n..\n.", 2, 7);
        judged("PS\n..\n.\n", 2, 7);
        judged("P..\n..\n.\n", 2, 6);
        judged("P..\n...\n..", 2, 10);
        judged("P..\n...\n\n", 2, 8);
        judged("P\n\n", 2, 2);
        judged("P" + DOTS15 + "\n" + DOTS15, 2, 32);
    }

    private static void firstLineEmpty() {
        CHECK.about("FAULT 2 at the end (byte 10, the text's end) of a first LINE that is empty");
        judged("", 2, 0);
        judged("\n", 2, 0);
        judged("\n\n", 2, 0);
        judged("\nPS", 2, 0);
        judged("\n?", 2, 0);
    }

    private static void seventeenthLine() {
        CHECK.about("FAULT 3 at the 17th LINE's first byte");
        sound("P\n" + ".\n".repeat(13) + ".");
        sound("P\n" + ".\n".repeat(14));
        sound("P\n" + ".\n".repeat(14) + ".");
        sound("P\n" + ".\n".repeat(15));
        judged("P\n" + ".\n".repeat(15) + ".", 3, 32);
        judged("P\n" + ".\n".repeat(15) + ".\n", 3, 32);
        judged("P\n" + ".\n".repeat(16) + ".", 3, 32);
        judged("P.\n" + "..\n".repeat(15) + "..", 3, 48);
        judged("P" + DOTS15 + "\n" + (DOTS16 + "\n").repeat(15) + ".", 3, 272);
        judged("P" + DOTS15 + "\n" + (DOTS16 + "\n").repeat(15) + "\n", 2, 272);
    }

    private static void seventeenthByte() {
        CHECK.about("FAULT 3 at a LINE's 17th byte (no byte 10)");
        sound("P" + DOTS15.substring(1));
        sound("P" + DOTS15);
        sound("P" + DOTS15 + "\n");
        judged("P" + DOTS16, 3, 16);
        judged("P" + DOTS16 + "\n", 3, 16);
        judged("P" + DOTS16 + ".", 3, 16);
        judged("P" + DOTS16 + "\n" + DOTS16 + ".", 3, 16);
    }

    private static void firstByPlace() {
        CHECK.about("FAULTS 1, 2, 3: the first of these by its place");
        judged("P?\n.", 1, 1);
        judged("PS\n.\n?", 2, 4);
        judged("PS\n...?", 2, 5);
        judged("P?" + DOTS16, 1, 1);
        judged("P" + DOTS16 + "?", 3, 16);
        judged("P" + DOTS15.substring(1) + "\n" + DOTS16 + ".", 2, 31);
        judged("P" + DOTS16 + "\n.", 3, 16);
        judged("P.\n" + "..\n".repeat(15) + "...", 3, 48);
        judged("P.\n" + "..\n".repeat(15) + ".", 3, 48);
        judged("P.\n" + "..\n".repeat(15) + ".?", 3, 48);
        judged("P.\n" + "..\n".repeat(14) + ".?\n.", 1, 46);
        judged("P.\n" + "..\n".repeat(14) + ".\n..", 2, 46);
    }

    private static void leastOfOnePlace() {
        CHECK.about("FAULTS 1, 2, 3: of one place the least");
        judged("PS\n..?", 1, 5);
        judged("P" + DOTS15 + "?", 1, 16);
        judged("P\n" + ".\n".repeat(15) + "?", 1, 32);
        judged("P" + DOTS15 + "\n" + DOTS16 + ".", 2, 33);
        judged("P" + DOTS15 + "\n" + DOTS16 + "?", 1, 33);
        judged("P\n" + ".\n".repeat(15) + "\n", 2, 32);
    }

    private static void faultsOfBytesAheadOfOthers() {
        CHECK.about("FAULTS 1, 2, 3; else 4; else 5");
        judged("S#S?", 1, 3);
        judged("S#S\n..", 2, 6);
        judged("S#" + DOTS15, 3, 16);
        judged("P#S?", 1, 3);
        judged("P#S\n....", 2, 7);
        judged("P#" + DOTS15, 3, 16);
        judged("P#S\n" + "...\n".repeat(16), 3, 64);
    }

    private static void parkings() {
        CHECK.about("FAULT 4: no PARKING, more than 6");
        judged(".", 4, 1);
        judged("S.", 4, 2);
        judged("#", 4, 1);
        sound("P");
        sound("PPPPP\n.....");
        sound("PPPPPP\n......");
        judged("PPPPPPP\n.......", 4, 15);
        judged("PPPPPPPP\n........", 4, 17);
        judged(("P".repeat(16) + "\n").repeat(16), 4, 272);
        CHECK.due("six VEHICLES", Yard.of("PPPPPP\n......").count(2), 6);
    }

    private static void stations() {
        CHECK.about("FAULT 4: more than 10 STATIONS");
        sound("P");
        sound("PSSSSSSSSS\n..........");
        sound("PSSSSSSSSSS\n...........");
        judged("PSSSSSSSSSSS\n............", 4, 25);
        judged("PSSSSSSSSSSSS\n.............", 4, 27);
        sound("PPPPPPSSSSSSSSSS\n" + DOTS16);
        judged("PPPPPPPSSSSSSSSS\n" + DOTS16, 4, 33);
        judged("PPPPPSSSSSSSSSSS\n" + DOTS16, 4, 33);
        CHECK.due("no STATION", Yard.of("P.").count(3), 0);
        CHECK.due("ten STATIONS", Yard.of("PSSSSSSSSSS\n...........").count(3), 10);
    }

    private static void placeOfFaultFour() {
        CHECK.about("FAULT 4 (place: the text's length)");
        judged("S", 4, 1);
        judged("S\n", 4, 2);
        judged("S.\n..", 4, 5);
        judged("S.\n..\n", 4, 6);
        judged((DOTS16 + "\n").repeat(15) + DOTS16, 4, 271);
        judged((DOTS16 + "\n").repeat(16), 4, 272);
    }

    private static void faultFourAheadOfFive() {
        CHECK.about("FAULT 4 ahead of FAULT 5");
        judged("S#S", 4, 3);
        judged("P#P#P#P#P#P#P", 4, 13);
        judged("P#S#S#S#S#S#S#S#\nS#S#S#S#........", 4, 33);
    }

    private static void wayWithoutCellsBetween() {
        CHECK.about("A WAY: a row of NEIGHBOURS from one to the other");
        sound("PS");
        sound("PP");
        sound("P\nS");
        sound("S\nP");
        sound("P.S");
        sound("P.\n#S\n");
        judged("P#\n#S", 5, 0);
    }

    private static void wayAroundWalls() {
        CHECK.about("A WAY has no WALL");
        judged("P#S", 5, 0);
        judged("P\n#\nS", 5, 0);
        sound("P#S\n...");
        judged("P#S\n.#.", 5, 0);
        sound("P#S\n.#.\n...");
        sound("#####\n#P.S#\n#####");
        judged("P.S\n###\n..S", 5, 0);
    }

    private static void wayPassesNoEndpoint() {
        CHECK.about("A WAY of which no CELL between is an ENDPOINT");
        judged("PSS", 5, 0);
        judged("SPS", 5, 0);
        judged("PPP", 5, 0);
        judged("SPP", 5, 0);
        judged("PPS", 5, 0);
        judged("P.S.S", 5, 0);
        sound("PSS\n...");
        sound("SPS\n...");
        judged("P.S\n##.\n..S", 5, 0);
        sound("P.S\n...\n..S");
    }

    private static void firstOfTheFirstTwo() {
        CHECK.about("FAULT 5 (place: the CELL of the first of the first two, by their CELLS)");
        judged("#P#S", 5, 1);
        judged("#S#P", 5, 1);
        // A CELL, not a byte: the byte is 4 here.
        judged(".P.\nS#S", 5, 3);
        sound(".P.\nS.S");
        judged("SP.\n#S.\n##P", 5, 0);
        // The first, in CELL 1, reaches all others; the one in 4 does not reach those in 6 and 7.
        judged(".S..\nP#PS", 5, 4);
        // 253 and 255 are the only ones; the WALLS are CELLS too.
        judged((DOTS16 + "\n").repeat(14) + DOTS15 + "#\n" + ".".repeat(13) + "S#P", 5, 253);
        judged("#\n#\nP\n#\nS", 5, 2);
    }

    private static void linesDoNotTouchAtTheirEnds() {
        CHECK.about("NEIGHBOURS are above, right, below, left: not over the end of a LINE");
        judged("##P\nS##", 5, 2);
        judged("P##\n##S", 5, 0);
        judged("P#\n.#\n#S", 5, 0);
        sound("..P\nS##");
    }

    private static void oneEndpoint() {
        CHECK.about("FAULT 5 needs two ENDPOINTS");
        sound("P");
        sound("P##\n###\n###");
        sound("#P#");
    }

    private static void longestText() {
        CHECK.about("THE MAP is a text of at most 400 bytes");
        judged("P".repeat(400), 3, 16);
        judged("\n".repeat(400), 2, 0);
        judged("?".repeat(400), 1, 0);
        judged("P" + DOTS15 + "\n" + (DOTS16 + "\n").repeat(15) + ".".repeat(128), 3, 272);
        sound("P" + DOTS15 + "\n" + (DOTS16 + "\n").repeat(15));
        sound("P" + DOTS15 + "\n" + (DOTS16 + "\n").repeat(14) + DOTS16);
    }

    private static void cellsLineByLine() {
        CHECK.about("CELLS are numbered from 0 on, line by line, WALLS too");
        Yard yard = Yard.of("#P.S\n#...\nS..P\n");
        CHECK.due("CELLS", yard.count(0), 12);
        CHECK.due("of a LINE", yard.count(1), 4);
        int[] kinds = {0, 3, 1, 2, 0, 1, 1, 1, 2, 1, 1, 3};
        for (int c = 0; c < kinds.length; c++) {
            CHECK.due("cell(" + c + ", 0)", yard.cell(c, 0), kinds[c]);
        }
        CHECK.due("cell(12, 0)", yard.cell(12, 0), -1);
    }

    private static void endpointsByTheirCells() {
        CHECK.about("STATIONS, and PARKINGS, are numbered from 0 on by their CELLS; VEHICLE v in PARKING v");
        Yard yard = Yard.of("S.P.S\n.....\nP.S.P\n");
        int[] ordinals = {0, -1, 0, -1, 1, -1, -1, -1, -1, -1, 1, -1, 2, -1, 2};
        for (int c = 0; c < ordinals.length; c++) {
            CHECK.due("cell(" + c + ", 1)", yard.cell(c, 1), ordinals[c]);
        }
        int[] homes = {2, 10, 14};
        for (int v = 0; v < homes.length; v++) {
            CHECK.due("vehicle(" + v + ", 0)", yard.vehicle(v, 0), homes[v]);
            CHECK.due("trip(" + v + ", 0)", yard.trip(v, 0), homes[v]);
            CHECK.due("the VEHICLE in " + homes[v], yard.cell(homes[v], 2), v);
        }
        Yard most = Yard.of("PPPPPPSSSSSSSSSS\n" + DOTS16);
        CHECK.due("the last PARKING", most.cell(5, 1), 5);
        CHECK.due("its VEHICLE", most.vehicle(5, 0), 5);
        CHECK.due("the last STATION", most.cell(15, 1), 9);
    }

    private static void neighbours() {
        CHECK.about("NEIGHBOURS of a CELL are those above (0), right (1), below (2), left (3) that are no WALL");
        Yard yard = Yard.of("P#S\n...\n#PS");
        int[] above = {-1, -1, -1, 0, -1, 2, 3, 4, 5};
        int[] right = {-1, 2, -1, 4, 5, -1, 7, 8, -1};
        int[] below = {3, 4, 5, -1, 7, 8, -1, -1, -1};
        int[] left = {-1, 0, -1, -1, 3, 4, -1, -1, 7};
        int[][] due = {above, right, below, left};
        for (int side = 0; side < 4; side++) {
            for (int c = 0; c < 9; c++) {
                CHECK.due("cell(" + c + ", " + (side + 3) + ")", yard.cell(c, side + 3), due[side][c]);
            }
        }
    }

    private static void neighboursOfSmallMaps() {
        CHECK.about("NEIGHBOURS: none outside the MAP");
        Yard one = Yard.of("P");
        for (int what = 3; what <= 6; what++) {
            CHECK.due("P: cell(0, " + what + ")", one.cell(0, what), -1);
        }
        sidesAre(Yard.of("P\n.\nS"), 0, -1, -1, 1, -1);
        sidesAre(Yard.of("P\n.\nS"), 1, 0, -1, 2, -1);
        sidesAre(Yard.of("P\n.\nS"), 2, 1, -1, -1, -1);
        sidesAre(Yard.of("P.S"), 0, -1, 1, -1, -1);
        sidesAre(Yard.of("P.S"), 1, -1, 2, -1, 0);
        sidesAre(Yard.of("P.S"), 2, -1, -1, -1, 1);
    }

    private static void neighboursInTheLargestMap() {
        CHECK.about("NEIGHBOURS: the corners of 256 CELLS");
        Yard yard = Yard.of("P" + DOTS15 + "\n" + (DOTS16 + "\n").repeat(15));
        CHECK.due("CELLS", yard.count(0), 256);
        CHECK.due("of a LINE", yard.count(1), 16);
        sidesAre(yard, 0, -1, 1, 16, -1);
        sidesAre(yard, 15, -1, -1, 31, 14);
        sidesAre(yard, 16, 0, 17, 32, -1);
        sidesAre(yard, 240, 224, 241, -1, -1);
        sidesAre(yard, 255, 239, -1, -1, 254);
        CHECK.due("cell(255, 0)", yard.cell(255, 0), 1);
        CHECK.due("cell(256, 0)", yard.cell(256, 0), -1);
    }

    private static void sidesAre(Yard yard, int c, int... due) {
        for (int side = 0; side < 4; side++) {
            CHECK.due("cell(" + c + ", " + (side + 3) + ")", yard.cell(c, side + 3), due[side]);
        }
    }
}
