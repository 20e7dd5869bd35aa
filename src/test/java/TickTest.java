/** Promises 8 to 11, 14 and 15 and part IV: tasks, grants, reports, and how all come to an end. */
public final class TickTest {
    private static final Check CHECK = new Check("TickTest");
    private static final String MAP = "P..S\n...S\n";
    private static final String CROSSING = "P.S\nP.S\n";

    public static void main(String[] args) {
        tasks();
        runs();
        wrongQuestions();
        stages();
        crossing();
        waiting();
        leastIdleGetsTheOldest();
        nextTaskInTheSameTick();
        allComeToTheirEnd();
        CHECK.end();
    }

    private static void tasks() {
        FleetYard yard = Check.yardOf(MAP);
        int[][] wrong = {{0, 0}, {1, 1}, {-1, 0}, {0, -1}, {2, 0}, {0, 2}, {2, 2},
            {Integer.MIN_VALUE, 0}, {0, Integer.MAX_VALUE}};
        for (int[] pair : wrong) {
            CHECK.due("task(" + pair[0] + ", " + pair[1] + ")", yard.task(pair[0], pair[1]), -1);
        }
        CHECK.due("none came", yard.count(4), 0);
        for (int i = 0; i < 60; i++) {
            CHECK.due("task " + i, yard.task(i % 2, 1 - i % 2), i);
        }
        CHECK.due("task 60", yard.task(0, 1), -1);
        CHECK.due("came", yard.count(4), 60);
        CHECK.due("given", yard.count(5), 0);
        CHECK.due("told(59, 0)", yard.told(59, 0), 1);
        CHECK.due("told(59, 1)", yard.told(59, 1), 0);
        for (int what = 2; what <= 4; what++) {
            CHECK.due("told(59, " + what + ")", yard.told(59, what), -1);
        }
        CHECK.due("told(60, 0)", yard.told(60, 0), -1);
    }

    private static void runs() {
        FleetYard yard = Check.yardOf(MAP);
        int[] wrong = {0, -1, 51, Integer.MIN_VALUE, Integer.MAX_VALUE};
        for (int n : wrong) {
            CHECK.due("run(" + n + ")", yard.run(n), -1);
        }
        CHECK.due("no TICK", yard.count(7), 0);
        for (int i = 1; i <= 11; i++) {
            CHECK.due("run(50)", yard.run(50), 0);
            CHECK.due("TICK", yard.count(7), 50 * i);
        }
        CHECK.due("run(1)", yard.run(1), 0);
        CHECK.due("run(50) to 601", yard.run(50), -1);
        CHECK.due("TICK", yard.count(7), 551);
        CHECK.due("run(49) to 600", yard.run(49), 0);
        CHECK.due("run(1) to 601", yard.run(1), -1);
        CHECK.due("TICK", yard.count(7), 600);
    }

    private static void wrongQuestions() {
        FleetYard yard = Check.yardOf(CROSSING);
        yard.task(0, 1);
        yard.run(3);
        int[] vehicles = {-1, 2, 6, Integer.MIN_VALUE, Integer.MAX_VALUE};
        for (int v : vehicles) {
            for (int what = -1; what <= 14; what++) {
                CHECK.due("vehicle(" + v + ", " + what + ")", yard.vehicle(v, what), -1);
            }
        }
        int[] whats = {-1, 14, Integer.MIN_VALUE, Integer.MAX_VALUE};
        for (int what : whats) {
            CHECK.due("vehicle(0, " + what + ")", yard.vehicle(0, what), -1);
        }
        int[] tasks = {-1, 1, Integer.MIN_VALUE, Integer.MAX_VALUE};
        for (int task : tasks) {
            CHECK.due("told(" + task + ", 0)", yard.told(task, 0), -1);
        }
        CHECK.due("told(0, 5)", yard.told(0, 5), -1);
        CHECK.due("told(0, -1)", yard.told(0, -1), -1);
        CHECK.due("count(least)", yard.count(Integer.MIN_VALUE), -1);
        CHECK.due("count(greatest)", yard.count(Integer.MAX_VALUE), -1);
    }

    // Without losses an ACT is granted, done and known in two TICKS; ACTS 4 and 6 are the stays.
    private static void stages() {
        FleetYard yard = Check.yardOf(MAP);
        yard.task(0, 1);
        int[] cells = {1, 2, 3, 3, 7, 7, 3, 2, 1, 0};
        int[] stages = {0, 0, 0, 1, 1, 2, 2, 2, 2, 0};
        for (int act = 1; act <= 10; act++) {
            yard.run(2);
            CHECK.due("ACT done last", yard.vehicle(0, 3), act);
            CHECK.due("CELL behind ACT " + act, yard.vehicle(0, 0), cells[act - 1]);
            CHECK.due("stage behind ACT " + act, yard.vehicle(0, 1), stages[act - 1]);
            CHECK.due("vehicle in it", yard.cell(cells[act - 1], 2), 0);
            CHECK.due("known ACT", yard.vehicle(0, 9), act - 1);
            CHECK.due("granted ACT", yard.vehicle(0, 13), act);
            CHECK.due("ACTS done", yard.count(11), act);
            CHECK.due("not IDLE", yard.vehicle(0, 7), 0);
            CHECK.due("its TASK", yard.vehicle(0, 11), 0);
        }
        CHECK.due("FINISHED in TICK 20", yard.run(1), 1);
        int[] behind = {0, 0, 1, 10, 0, 0, 1, 1, 1, 10, 1, -1, 10, 10};
        for (int what = 0; what < behind.length; what++) {
            CHECK.due("vehicle(0, " + what + ")", yard.vehicle(0, what), behind[what]);
        }
        yard.task(1, 0);
        yard.run(1);
        CHECK.due("a new PLAN of which the vehicle does not know: empty", yard.vehicle(0, 1), 0);
        CHECK.due("the PLAN it got", yard.vehicle(0, 10), 2);
        CHECK.due("the PLAN it has", yard.vehicle(0, 2), 1);
        CHECK.due("granted of it", yard.vehicle(0, 13), 1);
        CHECK.due("the known one is of PLAN 1", yard.vehicle(0, 8), 1);
        yard.run(2);
        CHECK.due("the PLAN it has", yard.vehicle(0, 2), 2);
        CHECK.due("first ACT", yard.vehicle(0, 3), 1);
        CHECK.due("the greater REPORT is of PLAN 2", yard.vehicle(0, 8), 2);
        CHECK.due("though its ACT is less", yard.vehicle(0, 9), 1);
    }

    // TripTest has these two trips: the second vehicle goes into 4 by itself, into 5 behind the first.
    private static void crossing() {
        FleetYard yard = Check.yardOf(CROSSING);
        yard.task(0, 1);
        yard.task(1, 0);
        yard.run(5);
        CHECK.due("ACT 1 of 1 is for MOMENT 6: not in TICK 4", yard.vehicle(1, 13), 0);
        yard.run(1);
        CHECK.due("but in TICK 5", yard.vehicle(1, 13), 1);
        yard.run(6);
        CHECK.due("5 is not given: 0 may still be in it", yard.vehicle(1, 13), 1);
        CHECK.due("of 0 is known", yard.vehicle(0, 9), 5);
        yard.run(1);
        CHECK.due("in TICK 12 it is known to be out of 5", yard.vehicle(0, 9), 6);
        CHECK.due("and 5 is given", yard.vehicle(1, 13), 2);
        CHECK.due("until TICK 15 none is FINISHED", yard.run(3), 0);
        CHECK.due("in TICK 16 one is", yard.run(1), 1);
        CHECK.due("until TICK 25 none is", yard.run(9), 0);
        CHECK.due("in TICK 26 the other is", yard.run(1), 1);
        int[][] due = {{0, 1, 0, 0, 16}, {1, 0, 1, 0, 26}};
        for (int task = 0; task < 2; task++) {
            for (int what = 0; what <= 4; what++) {
                CHECK.due("told(" + task + ", " + what + ")", yard.told(task, what), due[task][what]);
            }
        }
        CHECK.due("ACTS done", yard.count(11), 16);
    }

    private static void waiting() {
        FleetYard yard = Check.yardOf(CROSSING);
        yard.task(0, 1);
        yard.task(1, 0);
        yard.run(1);
        waitingIs(yard, "TICK 0", new int[] {1, 2, 3, 1, 2, 3}, new int[] {0, 0, 0, 1, 1, 0});
        // Known: 0 did ACT 2 (into 2): it is out of 1, but not out of 2.
        yard.run(4);
        waitingIs(yard, "TICK 4", new int[] {1, 1, 3, 1, 2, 3}, new int[] {0, 0, 0, 1, 1, 0});
        // Known: 0 did ACT 3, a stay: it is still in 2.
        yard.run(2);
        waitingIs(yard, "TICK 6", new int[] {1, 1, 3, 1, 2, 3}, new int[] {0, 0, 0, 1, 1, 0});
        // Known: 0 did ACT 4 (into 5).
        yard.run(2);
        waitingIs(yard, "TICK 8", new int[] {1, 1, 2, 1, 2, 3}, new int[] {0, 0, 0, 1, 1, 0});
        // Known: 0 did ACT 6 (into 2 again).
        yard.run(4);
        waitingIs(yard, "TICK 12", new int[] {1, 1, 2, 1, 2, 2}, new int[] {0, 0, 0, 1, 1, 1});
        // Known: 0 did ACT 7 (into 1), and 1 its ACT 2 (into 5).
        yard.run(2);
        waitingIs(yard, "TICK 14", new int[] {1, 1, 1, 1, 1, 2}, new int[] {0, 0, 1, 1, 1, 1});
        // Known: 0 did all, and its last ACT is over by that; 1 did its ACT 3, a stay.
        yard.run(2);
        waitingIs(yard, "TICK 16", new int[] {0, 0, 1, 1, 1, 2}, new int[] {-1, -1, 1, 1, 1, 1});
        yard.run(10);
        waitingIs(yard, "TICK 26", new int[] {0, 0, 0, 0, 0, 0}, new int[] {-1, -1, -1, -1, -1, -1});
    }

    private static void waitingIs(FleetYard yard, String at, int[] often, int[] first) {
        for (int c = 0; c < often.length; c++) {
            CHECK.due(at + ": cell(" + c + ", 7)", yard.cell(c, 7), often[c]);
            CHECK.due(at + ": cell(" + c + ", 8)", yard.cell(c, 8), first[c]);
        }
    }

    private static void leastIdleGetsTheOldest() {
        FleetYard yard = Check.yardOf("S.....S\nP.....P\n...P...\n");
        for (int i = 0; i < 5; i++) {
            yard.task(i % 2, 1 - i % 2);
        }
        yard.run(1);
        CHECK.due("given", yard.count(5), 3);
        for (int i = 0; i < 3; i++) {
            CHECK.due("the VEHICLE of TASK " + i, yard.told(i, 2), i);
            CHECK.due("the TICK of TASK " + i, yard.told(i, 3), 0);
            CHECK.due("the TASK of VEHICLE " + i, yard.vehicle(i, 11), i);
        }
        CHECK.due("the next waits", yard.told(3, 2), -1);
        for (int i = 0; i < 12 && yard.count(5) < 5; i++) {
            yard.run(50);
        }
        CHECK.due("TASK 3 is given ahead of 4", yard.told(3, 3) <= yard.told(4, 3), true);
        CHECK.due("given at last", yard.count(5), 5);
    }

    private static void nextTaskInTheSameTick() {
        FleetYard yard = Check.yardOf(MAP);
        yard.task(0, 1);
        yard.task(1, 0);
        yard.run(20);
        CHECK.due("given", yard.count(5), 1);
        CHECK.due("run(1)", yard.run(1), 1);
        CHECK.due("given", yard.count(5), 2);
        CHECK.due("told(0, 4)", yard.told(0, 4), 20);
        CHECK.due("told(1, 3)", yard.told(1, 3), 20);
        CHECK.due("first MOMENT", yard.plan(0, 0, 0), 20);
        CHECK.due("never IDLE between", yard.vehicle(0, 7), 0);
    }

    private static void allComeToTheirEnd() {
        FleetYard yard = Check.yardOf("#S#S#S#\nP.....P\nP.....P\nP.....P\n#S#S#S#\n");
        yard.fates(11);
        int[] row = {0, 1, 6, 8, 3, 12, 0, 14, 1, 2, 5};
        for (int i = 0; i < row.length; i++) {
            yard.fate(i, row[i]);
        }
        for (int i = 0; i < 10; i++) {
            yard.task(i % 6, (i + 1 + i / 6) % 6);
        }
        int finished = 0;
        for (int i = 0; i < 600; i++) {
            finished += yard.run(1);
            for (int v = 0; v < 6; v++) {
                CHECK.due("alone in its CELL", yard.cell(yard.vehicle(v, 0), 2), v);
            }
        }
        CHECK.due("FINISHED by the runs", finished, yard.count(6));
        CHECK.due("all", yard.count(6), 10);
        CHECK.due("LOST some", yard.count(9) > 0, true);
        for (int v = 0; v < 6; v++) {
            CHECK.due("IDLE", yard.vehicle(v, 7), 1);
            CHECK.due("at home", yard.cell(yard.vehicle(v, 0), 0), 3);
        }
    }
}
