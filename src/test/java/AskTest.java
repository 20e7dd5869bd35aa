/** Promises 10, 11, 14 and 15: what cell, vehicle, told and count answer, and what they do not. */
public final class AskTest {
    private static final Check CHECK = new Check("AskTest");
    private static final int LEAST = Integer.MIN_VALUE;
    private static final int GREATEST = Integer.MAX_VALUE;
    private static final int LOST = 1;
    private static final String MAP = "P..S\n...S\n";
    private static final String CROSSING = "P.S\nP.S\n";
    private static final String APART = "S.P.S\n.....\nS.P.S\n";

    public static void main(String[] args) {
        kindsOfCells();
        numbersOfEndpoints();
        vehicleInACell();
        otherCells();
        otherQuestionsOfACell();
        cellOfAVehicle();
        stageOfAVehicle();
        stageBehindTheEnd();
        planAndActOfAVehicle();
        whatTheBaseKnows();
        planThatItGotLast();
        lastActGranted();
        otherVehicles();
        otherQuestionsOfAVehicle();
        toldOfATask();
        otherTasks();
        otherQuestionsOfATask();
        countsOfTheMap();
        countsOfTasks();
        countsOfMessages();
        countOfActs();
        countOfBytes();
        otherCounts();
        CHECK.end();
    }

    private static void kindsOfCells() {
        CHECK.about("Promise 10: what 0: 0 WALL, 1 FLOOR, 2 STATION, 3 PARKING");
        Yard yard = Yard.of("P#S\n...\n#PS");
        int[] kinds = {3, 0, 2, 1, 1, 1, 0, 3, 2};
        for (int c = 0; c < kinds.length; c++) {
            CHECK.due("cell(" + c + ", 0)", yard.cell(c, 0), kinds[c]);
        }
    }

    private static void numbersOfEndpoints() {
        CHECK.about("Promise 10: 1: the number of that STATION, PARKING (else NONE)");
        Yard yard = Yard.of("P#S\n...\n#PS");
        int[] numbers = {0, -1, 0, -1, -1, -1, -1, 1, 1};
        for (int c = 0; c < numbers.length; c++) {
            CHECK.due("cell(" + c + ", 1)", yard.cell(c, 1), numbers[c]);
        }
    }

    private static void vehicleInACell() {
        CHECK.about("Promise 10: 2: the VEHICLE that is in it (NONE)");
        Yard yard = Yard.of(CROSSING);
        yard.task(0, 1);
        int[] cells = {0, 1, 1, 2, 2, 2, 2, 5, 5, 5, 5, 2, 2, 1, 1, 0, 0};
        for (int tick = 0; tick < cells.length; tick++) {
            yard.run(1);
            for (int c = 0; c < 6; c++) {
                int due = c == cells[tick] ? 0 : c == 3 ? 1 : -1;
                CHECK.due("cell(" + c + ", 2) behind TICK " + tick, yard.cell(c, 2), due);
            }
        }
    }

    private static void otherCells() {
        CHECK.about("Promise 10: NONE for others: no such CELL");
        Yard yard = Yard.of(MAP);
        yard.task(0, 1);
        yard.run(1);
        int[] none = {-1, 8, 9, 256, -8, LEAST, GREATEST};
        for (int c : none) {
            for (int what = -1; what <= 9; what++) {
                CHECK.due("cell(" + c + ", " + what + ")", yard.cell(c, what), -1);
            }
        }
        CHECK.due("cell(0, 0)", yard.cell(0, 0), 3);
        CHECK.due("cell(7, 0)", yard.cell(7, 0), 2);
    }

    private static void otherQuestionsOfACell() {
        CHECK.about("Promise 10: NONE for others: no such what");
        Yard yard = Yard.of(MAP);
        yard.task(0, 1);
        yard.run(1);
        int[] none = {-1, -2, 9, 10, LEAST, GREATEST};
        for (int what : none) {
            for (int c = 0; c < 8; c++) {
                CHECK.due("cell(" + c + ", " + what + ")", yard.cell(c, what), -1);
            }
        }
        CHECK.due("cell(3, 8)", yard.cell(3, 8), 0);
    }

    private static void cellOfAVehicle() {
        CHECK.about("Promise 11: what 0: its CELL");
        Yard yard = Yard.of(MAP);
        yard.task(0, 1);
        int[] cells = {0, 1, 1, 2, 2, 3, 3, 3, 3, 7, 7, 7, 7, 3, 3, 2, 2, 1, 1, 0, 0};
        for (int tick = 0; tick < cells.length; tick++) {
            yard.run(1);
            CHECK.due("vehicle(0, 0) behind TICK " + tick, yard.vehicle(0, 0), cells[tick]);
        }
    }

    // ACTS 4 and 6 are the stays.
    private static void stageOfAVehicle() {
        CHECK.about("Promise 11: 1: 0 empty, 1 LOADED, 2 DONE (0 behind its TRIP's end)");
        Yard yard = Yard.of(MAP);
        yard.task(0, 1);
        int[] stages = {0, 0, 0, 1, 1, 2, 2, 2, 2, 0};
        CHECK.due("ahead of it", yard.vehicle(0, 1), 0);
        for (int act = 1; act <= stages.length; act++) {
            yard.run(2);
            CHECK.due("ACT done last", yard.vehicle(0, 3), act);
            CHECK.due("behind ACT " + act, yard.vehicle(0, 1), stages[act - 1]);
        }
        Yard short6 = Yard.of("SPS\n...\n");
        short6.task(0, 1);
        int[] ofSix = {0, 1, 1, 1, 2, 0};
        for (int act = 1; act <= ofSix.length; act++) {
            short6.run(2);
            CHECK.due("of six, behind ACT " + act, short6.vehicle(0, 1), ofSix[act - 1]);
        }
    }

    private static void stageBehindTheEnd() {
        CHECK.about("Promise 11: 1: 0 behind its TRIP's end, also while a new PLAN is on its way to it");
        Yard yard = Yard.of(MAP);
        yard.task(0, 1);
        yard.task(0, 1);
        yard.run(20);
        CHECK.due("at its end", yard.vehicle(0, 1), 0);
        yard.run(1);
        CHECK.due("PLAN 2 is given", yard.vehicle(0, 10), 2);
        CHECK.due("the VEHICLE did ACT 10 of PLAN 1", yard.vehicle(0, 3), 10);
        CHECK.due("empty", yard.vehicle(0, 1), 0);
        yard.run(1);
        CHECK.due("ACT 1 of PLAN 2: empty", yard.vehicle(0, 1), 0);
        yard.run(6);
        CHECK.due("ACT 4 of PLAN 2: LOADED", yard.vehicle(0, 1), 1);
        // The old ACT 6 ended a short PLAN; ACT 6 of the new one is LOADED.
        Yard longer = Yard.of("SPS...S\n.......\n");
        longer.task(0, 1);
        longer.task(1, 2);
        longer.run(13);
        CHECK.due("FINISHED", longer.told(0, 4), 12);
        CHECK.due("ACT 6 of PLAN 1", longer.vehicle(0, 3), 6);
        CHECK.due("PLAN 2 is given", longer.vehicle(0, 10), 2);
        CHECK.due("empty", longer.vehicle(0, 1), 0);
        longer.run(12);
        CHECK.due("ACT 6 of PLAN 2", longer.vehicle(0, 3), 6);
        CHECK.due("LOADED", longer.vehicle(0, 1), 1);
    }

    private static void planAndActOfAVehicle() {
        CHECK.about("Promise 11: 2: its PLAN's number (the latest one that it has), 3: the ACT done last");
        Yard yard = Yard.of(MAP);
        yard.task(0, 1);
        yard.task(1, 0);
        for (int tick = 0; tick <= 43; tick++) {
            yard.run(1);
            int plan = tick == 0 ? 0 : tick <= 20 ? 1 : 2;
            int act = tick == 0 ? 0 : tick <= 20 ? Math.min(tick + 1, 20) / 2 : Math.min(tick - 19, 20) / 2;
            CHECK.due("PLAN behind TICK " + tick, yard.vehicle(0, 2), plan);
            CHECK.due("ACT behind TICK " + tick, yard.vehicle(0, 3), act);
            CHECK.due("no GRANT is open behind TICK " + tick, yard.vehicle(0, 4), 0);
        }
    }

    private static void whatTheBaseKnows() {
        CHECK.about("Promise 11: as the BASE knows: 7: IDLE (1, 0), 8: PLAN, 9: ACT (of the greatest REPORT)");
        Yard yard = Yard.of(MAP);
        CHECK.due("IDLE at first", yard.vehicle(0, 7), 1);
        yard.task(0, 1);
        CHECK.due("IDLE until the TICK", yard.vehicle(0, 7), 1);
        for (int tick = 0; tick <= 24; tick++) {
            yard.run(1);
            CHECK.due("IDLE behind TICK " + tick, yard.vehicle(0, 7), tick < 20 ? 0 : 1);
            CHECK.due("PLAN behind TICK " + tick, yard.vehicle(0, 8), tick < 2 ? 0 : 1);
            CHECK.due("ACT behind TICK " + tick, yard.vehicle(0, 9), Math.min(tick, 20) / 2);
        }
    }

    private static void planThatItGotLast() {
        CHECK.about("Promise 11: 10: the PLAN that it got last (0: none), 11: its TASK (NONE if IDLE), 12: ACTS of that PLAN");
        Yard yard = Yard.of(APART);
        yard.task(0, 1);
        int[][] ahead = {{0, -1, 0}, {0, -1, 0}};
        int[][] given = {{1, 0, 10}, {0, -1, 0}};
        int[][] finished = {{1, -1, 10}, {0, -1, 0}};
        gotIs(yard, "ahead of TICK 0", ahead);
        yard.run(1);
        gotIs(yard, "behind TICK 0", given);
        yard.run(19);
        gotIs(yard, "behind TICK 19", given);
        yard.run(1);
        gotIs(yard, "behind TICK 20", finished);
        yard.task(2, 3);
        yard.task(0, 1);
        yard.run(1);
        CHECK.due("the second PLAN of 0", yard.vehicle(0, 10), 2);
        CHECK.due("its TASK", yard.vehicle(0, 11), 1);
        CHECK.due("the first PLAN of 1", yard.vehicle(1, 10), 1);
        CHECK.due("its TASK", yard.vehicle(1, 11), 2);
        Yard six = Yard.of("SPS\n...\n");
        six.task(0, 1);
        six.run(1);
        CHECK.due("six ACTS", six.vehicle(0, 12), 6);
    }

    private static void gotIs(Yard yard, String when, int[][] due) {
        for (int v = 0; v < due.length; v++) {
            for (int i = 0; i < 3; i++) {
                CHECK.due(when + ": vehicle(" + v + ", " + (10 + i) + ")", yard.vehicle(v, 10 + i), due[v][i]);
            }
        }
    }

    private static void lastActGranted() {
        CHECK.about("Promise 11: 13: the last ACT granted of it (0: none)");
        Yard yard = Yard.of(MAP);
        CHECK.due("without a PLAN", yard.vehicle(0, 13), 0);
        yard.task(0, 1);
        CHECK.due("without a PLAN", yard.vehicle(0, 13), 0);
        for (int tick = 0; tick <= 22; tick++) {
            yard.run(1);
            CHECK.due("behind TICK " + tick, yard.vehicle(0, 13), Math.min(tick / 2 + 1, 10));
        }
        Yard waits = Yard.of(CROSSING);
        waits.task(0, 1);
        waits.task(1, 0);
        waits.run(1);
        CHECK.due("of a PLAN of which none is granted yet", waits.vehicle(1, 13), 0);
        CHECK.due("which has ACTS", waits.vehicle(1, 12), 8);
    }

    private static void otherVehicles() {
        CHECK.about("Promise 11: NONE for others: no such VEHICLE");
        Yard yard = Yard.of(CROSSING);
        yard.task(0, 1);
        yard.run(3);
        int[] none = {-1, 2, 3, 6, 7, LEAST, GREATEST};
        for (int v : none) {
            for (int what = -1; what <= 14; what++) {
                CHECK.due("vehicle(" + v + ", " + what + ")", yard.vehicle(v, what), -1);
            }
        }
        CHECK.due("vehicle(1, 0)", yard.vehicle(1, 0), 3);
        Yard six = Yard.of("PPPPPP\n......");
        CHECK.due("vehicle(5, 0)", six.vehicle(5, 0), 5);
        CHECK.due("vehicle(6, 0)", six.vehicle(6, 0), -1);
        CHECK.due("trip(5, 0)", six.trip(5, 0), 5);
        CHECK.due("trip(6, 0)", six.trip(6, 0), -1);
    }

    private static void otherQuestionsOfAVehicle() {
        CHECK.about("Promise 11: NONE for others: no such what");
        Yard yard = Yard.of(CROSSING);
        yard.task(0, 1);
        yard.run(3);
        int[] none = {-1, -2, 14, 15, 100, LEAST, GREATEST};
        for (int what : none) {
            CHECK.due("vehicle(0, " + what + ")", yard.vehicle(0, what), -1);
            CHECK.due("vehicle(1, " + what + ")", yard.vehicle(1, what), -1);
        }
        CHECK.due("vehicle(0, 13)", yard.vehicle(0, 13), 2);
    }

    private static void toldOfATask() {
        CHECK.about("Promise 14: its STATIONS, the VEHICLE that got it (NONE), the TICKS at which it got it, FINISHED it (NONE)");
        Yard yard = Yard.of(MAP);
        yard.task(1, 0);
        yard.task(0, 1);
        toldIs(yard, 0, 1, 0, -1, -1, -1);
        toldIs(yard, 1, 0, 1, -1, -1, -1);
        yard.run(1);
        toldIs(yard, 0, 1, 0, 0, 0, -1);
        toldIs(yard, 1, 0, 1, -1, -1, -1);
        yard.run(19);
        toldIs(yard, 0, 1, 0, 0, 0, -1);
        toldIs(yard, 1, 0, 1, -1, -1, -1);
        yard.run(1);
        toldIs(yard, 0, 1, 0, 0, 0, 20);
        toldIs(yard, 1, 0, 1, 0, 20, -1);
        yard.run(19);
        toldIs(yard, 1, 0, 1, 0, 20, -1);
        yard.run(1);
        toldIs(yard, 0, 1, 0, 0, 0, 20);
        toldIs(yard, 1, 0, 1, 0, 20, 40);
        Yard two = Yard.of(APART);
        two.run(3);
        two.task(0, 1);
        two.task(2, 3);
        two.run(21);
        toldIs(two, 1, 2, 3, 1, 3, 23);
    }

    private static void toldIs(Yard yard, int task, int... due) {
        for (int what = 0; what < due.length; what++) {
            CHECK.due("told(" + task + ", " + what + ")", yard.told(task, what), due[what]);
        }
    }

    private static void otherTasks() {
        CHECK.about("Promise 14: NONE for others: no such TASK");
        Yard yard = Yard.of(MAP);
        int[] never = {-1, 60, 61, LEAST, GREATEST};
        for (int came = 0; came <= 2; came++) {
            for (int what = 0; what <= 4; what++) {
                CHECK.due("told(" + came + ", " + what + ")", yard.told(came, what), -1);
                for (int task : never) {
                    CHECK.due("told(" + task + ", " + what + ")", yard.told(task, what), -1);
                }
            }
            yard.task(0, 1);
            CHECK.due("told(" + came + ", 1)", yard.told(came, 1), 1);
        }
    }

    private static void otherQuestionsOfATask() {
        CHECK.about("Promise 14: NONE for others: no such what");
        Yard yard = Yard.of(MAP);
        yard.task(0, 1);
        yard.run(25);
        int[] none = {-1, -2, 5, 6, LEAST, GREATEST};
        for (int what : none) {
            CHECK.due("told(0, " + what + ")", yard.told(0, what), -1);
        }
        CHECK.due("told(0, 4)", yard.told(0, 4), 20);
    }

    private static void countsOfTheMap() {
        CHECK.about("Promise 15: 0 CELLS, 1 CELLS of a LINE, 2 VEHICLES, 3 STATIONS");
        String[] texts = {"P", "P.", "P\n.", "P#S\n...\n#PS", "PPPPPPSSSSSSSSSS\n" + ".".repeat(16)};
        int[][] due = {{1, 1, 1, 0}, {2, 2, 1, 0}, {2, 1, 1, 0}, {9, 3, 2, 2}, {32, 16, 6, 10}};
        for (int i = 0; i < texts.length; i++) {
            Yard yard = Yard.of(texts[i]);
            for (int what = 0; what <= 3; what++) {
                CHECK.due("count(" + what + ") of map " + i, yard.count(what), due[i][what]);
            }
        }
    }

    private static void countsOfTasks() {
        CHECK.about("Promise 15: 4 TASKS that came, 5 given, 6 FINISHED, 7 the TICK's number");
        Yard yard = Yard.of(MAP);
        tasksAre(yard, 0, 0, 0, 0);
        yard.task(0, 1);
        yard.task(1, 0);
        yard.task(0, 1);
        tasksAre(yard, 3, 0, 0, 0);
        yard.run(1);
        tasksAre(yard, 3, 1, 0, 1);
        yard.run(19);
        tasksAre(yard, 3, 1, 0, 20);
        yard.run(1);
        tasksAre(yard, 3, 2, 1, 21);
        yard.run(20);
        tasksAre(yard, 3, 3, 2, 41);
        yard.run(20);
        tasksAre(yard, 3, 3, 3, 61);
    }

    private static void tasksAre(Yard yard, int... due) {
        for (int i = 0; i < due.length; i++) {
            CHECK.due("count(" + (4 + i) + ")", yard.count(4 + i), due[i]);
        }
    }

    // Sent are 0 REPORT, 1 GRANT; 2 REPORT; 3 REPORT, 4 GRANT; 5 REPORT.
    private static void countsOfMessages() {
        CHECK.about("Promise 15: 8 messages sent, 9 LOST, 10 comings on their way");
        Yard yard = Yard.of(MAP);
        yard.row(8, 0, 4, LOST, 9, 14, 0, 0);
        yard.task(0, 1);
        messagesAre(yard, "at first", 0, 0, 0);
        yard.run(1);
        // 0 twice, 1 once.
        messagesAre(yard, "behind TICK 0", 2, 0, 3);
        yard.run(1);
        // 0 and 1 came; 0 again in TICK 2, and 2 in TICK 4.
        messagesAre(yard, "behind TICK 1", 3, 0, 2);
        yard.run(1);
        messagesAre(yard, "behind TICK 2", 4, 1, 1);
        yard.run(1);
        messagesAre(yard, "behind TICK 3", 4, 1, 1);
        yard.run(1);
        // 2 came, so that ACT 2 is granted: 4 is the REPORT of this TICK, LOST; 5 is the GRANT, twice.
        messagesAre(yard, "behind TICK 4", 6, 2, 2);
    }

    private static void messagesAre(Yard yard, String when, int... due) {
        for (int i = 0; i < due.length; i++) {
            CHECK.due(when + ": count(" + (8 + i) + ")", yard.count(8 + i), due[i]);
        }
    }

    private static void countOfActs() {
        CHECK.about("Promise 15: 11 ACTS done: of all VEHICLES and all PLANS");
        Yard yard = Yard.of(APART);
        yard.task(0, 1);
        yard.task(2, 3);
        yard.task(0, 1);
        for (int tick = 0; tick <= 41; tick++) {
            CHECK.due("ahead of TICK " + tick, yard.count(11),
                    tick <= 20 ? tick / 2 * 2 : 20 + (tick - 20) / 2);
            yard.run(1);
        }
        CHECK.due("in all", yard.count(11), 30);
    }

    private static void countOfBytes() {
        CHECK.about("Promise 15: 12 bytes on the tape");
        Yard yard = Yard.of(MAP);
        CHECK.due("count(12)", yard.count(12), 0);
        yard.write("PS");
        CHECK.due("count(12)", yard.count(12), 2);
        yard.run(3);
        CHECK.due("count(12)", yard.count(12), 2);
        yard.back(1);
        CHECK.due("count(12)", yard.count(12), 1);
        yard.back(1);
        CHECK.due("count(12)", yard.count(12), 0);
        yard.write(".".repeat(399));
        CHECK.due("count(12)", yard.count(12), 399);
        yard.back(19);
        yard.write(".".repeat(20));
        CHECK.due("count(12)", yard.count(12), 400);
        yard.read();
        CHECK.due("count(12)", yard.count(12), 0);
    }

    private static void otherCounts() {
        CHECK.about("Promise 15: NONE for others");
        Yard yard = Yard.of(MAP);
        yard.write("PS");
        int[] none = {-1, -2, 13, 14, 100, LEAST, GREATEST};
        for (int what : none) {
            CHECK.due("count(" + what + ")", yard.count(what), -1);
        }
        CHECK.due("count(12)", yard.count(12), 2);
    }
}
