/** Promises 8 and 9 and part IV: TASKS that come, TICKS that run, and what is done in a TICK. */
public final class TickTest {
    private static final Check CHECK = new Check("TickTest");
    private static final int LEAST = Integer.MIN_VALUE;
    private static final int GREATEST = Integer.MAX_VALUE;
    private static final int LOST = 1;
    private static final String MAP = "P..S\n...S\n";
    // TASK 0 1 of VEHICLE 0 in the first LINE, TASK 2 3 of VEHICLE 1 in the last one: ten ACTS each.
    private static final String APART = "S.P.S\n.....\nS.P.S\n";
    private static final String HALL = "#S#S#S#\nP.....P\nP.....P\nP.....P\n#S#S#S#\n";

    public static void main(String[] args) {
        taskNumbers();
        noSuchStations();
        alike();
        sixtyTasks();
        sixtyInAll();
        tasksAtAnyTime();
        oneToFiftyTicks();
        anotherNumberOfTicks();
        sixHundredInAll();
        refusedTicksAreNotDone();
        finishedByThem();
        fiftyAreFiftyTimesOne();
        messagesAheadOfActs();
        reportsOfEvenTicks();
        oneReportOfAnActInAnEvenTick();
        vehiclesByNumbers();
        finishedWhenKnown();
        idleGetsTheNextTaskAtOnce();
        oldestTaskFirst();
        leastIdleVehicle();
        noneIdle();
        grantInTheTickOfThePlan();
        tickIsOneMore();
        allComeToTheirEnd();
        CHECK.end();
    }

    private static void taskNumbers() {
        CHECK.about("Promise 8: a TASK comes, from STATION a to b: its number, from 0 on");
        Yard yard = Yard.of("PSSSSSSSSSS\n...........");
        CHECK.due("STATIONS", yard.count(3), 10);
        CHECK.due("task(0, 9)", yard.task(0, 9), 0);
        CHECK.due("task(9, 0)", yard.task(9, 0), 1);
        CHECK.due("task(9, 8)", yard.task(9, 8), 2);
        CHECK.due("the same again", yard.task(9, 8), 3);
        int[][] due = {{0, 9}, {9, 0}, {9, 8}, {9, 8}};
        for (int i = 0; i < due.length; i++) {
            CHECK.due("told(" + i + ", 0)", yard.told(i, 0), due[i][0]);
            CHECK.due("told(" + i + ", 1)", yard.told(i, 1), due[i][1]);
        }
        CHECK.due("came", yard.count(4), 4);
    }

    private static void noSuchStations() {
        CHECK.about("Promise 8: NONE, and nothing happens: no such ones");
        Yard most = Yard.of("PSSSSSSSSSS\n...........");
        int[] none = {-1, 10, 11, LEAST, GREATEST};
        for (int s : none) {
            CHECK.due("task(" + s + ", 0)", most.task(s, 0), -1);
            CHECK.due("task(0, " + s + ")", most.task(0, s), -1);
            CHECK.due("task(9, " + s + ")", most.task(9, s), -1);
        }
        CHECK.due("came", most.count(4), 0);
        CHECK.due("told(0, 0)", most.told(0, 0), -1);
        CHECK.due("the next one", most.task(9, 0), 0);
        Yard two = Yard.of(MAP);
        CHECK.due("task(0, 2)", two.task(0, 2), -1);
        CHECK.due("task(2, 1)", two.task(2, 1), -1);
        CHECK.due("task(0, 1)", two.task(0, 1), 0);
        Yard without = Yard.of("P.");
        CHECK.due("without STATIONS: task(0, 0)", without.task(0, 0), -1);
        CHECK.due("without STATIONS: task(0, 1)", without.task(0, 1), -1);
        CHECK.due("run(3)", without.run(3), 0);
    }

    private static void alike() {
        CHECK.about("Promise 8: NONE, and nothing happens: alike");
        Yard yard = Yard.of(MAP);
        CHECK.due("task(0, 0)", yard.task(0, 0), -1);
        CHECK.due("task(1, 1)", yard.task(1, 1), -1);
        CHECK.due("task(2, 2)", yard.task(2, 2), -1);
        CHECK.due("task(-1, -1)", yard.task(-1, -1), -1);
        CHECK.due("came", yard.count(4), 0);
        yard.run(5);
        CHECK.due("given", yard.count(5), 0);
        CHECK.due("task(1, 0)", yard.task(1, 0), 0);
    }

    private static void sixtyTasks() {
        CHECK.about("Promise 8: NONE, and nothing happens: 60 came");
        Yard yard = Yard.of(MAP);
        for (int i = 0; i < 60; i++) {
            CHECK.due("TASK " + i, yard.task(i % 2, 1 - i % 2), i);
        }
        for (int i = 0; i < 3; i++) {
            CHECK.due("the 61st", yard.task(0, 1), -1);
            CHECK.due("came", yard.count(4), 60);
        }
        CHECK.due("told(58, 0)", yard.told(58, 0), 0);
        CHECK.due("told(59, 0)", yard.told(59, 0), 1);
        CHECK.due("told(59, 1)", yard.told(59, 1), 0);
        CHECK.due("told(60, 0)", yard.told(60, 0), -1);
        CHECK.due("run(50)", yard.run(50), 2);
        CHECK.due("told(0, 4)", yard.told(0, 4), 20);
        CHECK.due("told(2, 2)", yard.told(2, 2), 0);
    }

    private static void sixtyInAll() {
        CHECK.about("Promise 8: 60 came: those that are FINISHED too");
        Yard yard = Yard.of(MAP);
        for (int i = 0; i < 59; i++) {
            yard.task(0, 1);
        }
        CHECK.due("600 TICKS", yard.ticks(600), 29);
        CHECK.due("the 60th", yard.task(1, 0), 59);
        CHECK.due("the 61st", yard.task(1, 0), -1);
        CHECK.due("FINISHED", yard.count(6), 29);
    }

    private static void tasksAtAnyTime() {
        CHECK.about("Promise 8: a TASK comes: between TICKS, and is given in the next one");
        Yard yard = Yard.of(MAP);
        yard.run(9);
        yard.task(0, 1);
        CHECK.due("not given yet", yard.told(0, 3), -1);
        yard.run(1);
        CHECK.due("given in TICK 9", yard.told(0, 3), 9);
    }

    private static void oneToFiftyTicks() {
        CHECK.about("Promise 9: n TICKS (1 .. 50)");
        int[] right = {1, 2, 3, 25, 49, 50};
        for (int n : right) {
            Yard yard = Yard.of(MAP);
            CHECK.due("run(" + n + ")", yard.run(n), 0);
            CHECK.due("count(7)", yard.count(7), n);
            CHECK.due("REPORTS", yard.count(8), (n + 1) / 2);
            CHECK.due("SILENT", yard.vehicle(0, 6), n);
        }
    }

    private static void anotherNumberOfTicks() {
        CHECK.about("Promise 9: NONE, and nothing happens, for another n");
        int[] wrong = {0, -1, 51, 52, 100, 600, -50, LEAST, LEAST + 1, GREATEST};
        Yard yard = Yard.of(MAP);
        yard.task(0, 1);
        for (int n : wrong) {
            CHECK.due("run(" + n + ")", yard.run(n), -1);
            CHECK.due("count(7)", yard.count(7), 0);
            CHECK.due("sent", yard.count(8), 0);
            CHECK.due("given", yard.count(5), 0);
        }
        yard.run(7);
        for (int n : wrong) {
            CHECK.due("run(" + n + ") in TICK 7", yard.run(n), -1);
            CHECK.due("count(7)", yard.count(7), 7);
        }
    }

    private static void sixHundredInAll() {
        CHECK.about("Promise 9: NONE, if more than 600 would be done in all");
        for (int n = 1; n <= 50; n++) {
            Yard yard = Yard.of(MAP);
            yard.ticks(600 - n);
            CHECK.due("run(" + (n + 1) + ") to 601", yard.run(n + 1), -1);
            CHECK.due("count(7)", yard.count(7), 600 - n);
            CHECK.due("run(" + n + ") to 600", yard.run(n), 0);
            CHECK.due("count(7)", yard.count(7), 600);
            CHECK.due("run(1) to 601", yard.run(1), -1);
            CHECK.due("run(50) to 650", yard.run(50), -1);
            CHECK.due("count(7)", yard.count(7), 600);
        }
    }

    private static void refusedTicksAreNotDone() {
        CHECK.about("Promise 9: nothing happens: refused TICKS count for nothing");
        Yard yard = Yard.of(MAP);
        yard.ticks(551);
        yard.task(0, 1);
        int sent = yard.count(8);
        for (int i = 0; i < 20; i++) {
            CHECK.due("run(50) to 601", yard.run(50), -1);
        }
        CHECK.due("count(7)", yard.count(7), 551);
        CHECK.due("sent", yard.count(8), sent);
        CHECK.due("given", yard.count(5), 0);
        CHECK.due("run(49)", yard.run(49), 1);
        CHECK.due("told(0, 3)", yard.told(0, 3), 551);
        CHECK.due("count(7)", yard.count(7), 600);
    }

    private static void finishedByThem() {
        CHECK.about("Promise 9: how many TASKS were FINISHED by them");
        Yard yard = Yard.of(MAP);
        for (int i = 0; i < 5; i++) {
            yard.task(0, 1);
        }
        CHECK.due("TICKS 0 .. 19", yard.run(20), 0);
        CHECK.due("TICK 20", yard.run(1), 1);
        CHECK.due("TICKS 21 .. 39", yard.run(19), 0);
        CHECK.due("TICKS 40 .. 80", yard.run(41), 3);
        CHECK.due("TICKS 81 .. 99", yard.run(19), 0);
        CHECK.due("TICKS 100 .. 149", yard.run(50), 1);
        CHECK.due("FINISHED in all", yard.count(6), 5);
        CHECK.due("nothing is left", yard.run(50), 0);
        Yard two = Yard.of(APART);
        two.task(0, 1);
        two.task(2, 3);
        CHECK.due("TICKS 0 .. 19", two.run(20), 0);
        CHECK.due("two in TICK 20", two.run(1), 2);
    }

    private static void fiftyAreFiftyTimesOne() {
        CHECK.about("Promise 9: n TICKS: one after the other, as by calls of run(1)");
        State.same(CHECK, "50 at once", yard -> {
            prepare(yard);
            yard.run(50);
        }, yard -> {
            prepare(yard);
            for (int i = 0; i < 50; i++) {
                yard.run(1);
            }
        }, yard -> yard.run(11));
    }

    private static void prepare(Yard yard) {
        yard.write("P.S\nP.S\n");
        yard.read();
        yard.row(0, 9, 14, 2, 1);
        yard.task(0, 1);
        yard.task(1, 0);
        yard.task(0, 1);
    }

    private static void messagesAheadOfActs() {
        CHECK.about("A TICK, in this order: messages come; each VEHICLE; THE BASE");
        Yard yard = Yard.of(MAP);
        yard.task(0, 1);
        yard.run(1);
        CHECK.due("TICK 0: granted", yard.vehicle(0, 13), 1);
        CHECK.due("TICK 0: not there yet", yard.vehicle(0, 2), 0);
        yard.run(1);
        CHECK.due("TICK 1: there and done", yard.vehicle(0, 3), 1);
        CHECK.due("TICK 1: not known", yard.vehicle(0, 9), 0);
        CHECK.due("TICK 1: nothing new is granted", yard.vehicle(0, 13), 1);
        yard.run(1);
        CHECK.due("TICK 2: known", yard.vehicle(0, 9), 1);
        CHECK.due("TICK 2: the next one granted", yard.vehicle(0, 13), 2);
        CHECK.due("TICK 2: not done", yard.vehicle(0, 3), 1);
    }

    private static void reportsOfEvenTicks() {
        CHECK.about("Then it sends a REPORT if it did one, or if the TICK's number is even");
        Yard idle = Yard.of("PP.\n...\n");
        int[] sent = {2, 2, 4, 4, 6, 6, 8};
        for (int tick = 0; tick < sent.length; tick++) {
            idle.run(1);
            CHECK.due("of two, by TICK " + tick, idle.count(8), sent[tick]);
        }
        Yard acting = Yard.of(MAP);
        acting.task(0, 1);
        int[] withGrants = {2, 3, 5, 6, 8, 9};
        for (int tick = 0; tick < withGrants.length; tick++) {
            acting.run(1);
            CHECK.due("with ACTS in odd TICKS, by TICK " + tick, acting.count(8), withGrants[tick]);
        }
    }

    private static void oneReportOfAnActInAnEvenTick() {
        CHECK.about("A REPORT if it did one, or if the TICK's number is even: one REPORT for both");
        Yard yard = Yard.of(MAP);
        yard.task(0, 1);
        yard.fates(64);
        yard.fate(1, 2);
        yard.run(2);
        CHECK.due("a REPORT and the GRANT", yard.count(8), 2);
        yard.run(1);
        CHECK.due("ACT 1 is done in TICK 2", yard.vehicle(0, 3), 1);
        CHECK.due("one REPORT", yard.count(8), 3);
        yard.run(1);
        CHECK.due("known in TICK 3", yard.vehicle(0, 9), 1);
        CHECK.due("only a GRANT in TICK 3", yard.count(8), 4);
    }

    // Messages 0, 1 are the REPORTS of TICK 0, 2, 3 its GRANTS, 4, 5 the REPORTS of TICK 1.
    private static void vehiclesByNumbers() {
        CHECK.about("Each VEHICLE, by numbers: REPORTS; for each VEHICLE, by numbers: GRANTS");
        for (int v = 0; v < 2; v++) {
            Yard grant = Yard.of(APART);
            grant.task(0, 1);
            grant.task(2, 3);
            grant.fates(64);
            grant.fate(2 + v, LOST);
            grant.run(2);
            CHECK.due("GRANT of " + v + " is LOST", grant.vehicle(v, 2), 0);
            CHECK.due("the other one comes", grant.vehicle(1 - v, 2), 1);
            Yard report = Yard.of(APART);
            report.task(0, 1);
            report.task(2, 3);
            report.fates(64);
            report.fate(4 + v, LOST);
            report.run(3);
            CHECK.due("REPORT of " + v + " is LOST", report.vehicle(v, 9), 0);
            CHECK.due("the other one comes", report.vehicle(1 - v, 9), 1);
        }
    }

    private static void finishedWhenKnown() {
        CHECK.about("Whose PLAN is known to be done whole (all ACTS), it is IDLE, its TASK FINISHED at this TICK");
        Yard yard = Yard.of(MAP);
        yard.task(0, 1);
        yard.run(20);
        CHECK.due("all ACTS are done in TICK 19", yard.vehicle(0, 3), 10);
        CHECK.due("known are all but one", yard.vehicle(0, 9), 9);
        CHECK.due("not IDLE", yard.vehicle(0, 7), 0);
        CHECK.due("told(0, 4)", yard.told(0, 4), -1);
        CHECK.due("count(6)", yard.count(6), 0);
        CHECK.due("TICK 20", yard.run(1), 1);
        CHECK.due("known", yard.vehicle(0, 9), 10);
        CHECK.due("IDLE", yard.vehicle(0, 7), 1);
        CHECK.due("its TASK", yard.vehicle(0, 11), -1);
        CHECK.due("told(0, 4)", yard.told(0, 4), 20);
        CHECK.due("count(6)", yard.count(6), 1);
        yard.run(30);
        CHECK.due("FINISHED once", yard.count(6), 1);
        CHECK.due("at that TICK", yard.told(0, 4), 20);
    }

    private static void idleGetsTheNextTaskAtOnce() {
        CHECK.about("It is IDLE. Then the TASKS: in the same TICK");
        Yard yard = Yard.of(MAP);
        yard.task(0, 1);
        yard.task(1, 0);
        yard.run(20);
        CHECK.due("given", yard.count(5), 1);
        CHECK.due("run(1)", yard.run(1), 1);
        CHECK.due("given", yard.count(5), 2);
        CHECK.due("told(0, 4)", yard.told(0, 4), 20);
        CHECK.due("told(1, 3)", yard.told(1, 3), 20);
        CHECK.due("first MOMENT", yard.plan(0, 0, 0), 20);
        CHECK.due("not IDLE", yard.vehicle(0, 7), 0);
        CHECK.due("its TASK", yard.vehicle(0, 11), 1);
        CHECK.due("granted", yard.vehicle(0, 13), 1);
    }

    private static void oldestTaskFirst() {
        CHECK.about("Then the TASKS, oldest first");
        Yard yard = Yard.of(MAP);
        for (int i = 0; i < 4; i++) {
            yard.task(i % 2, 1 - i % 2);
        }
        for (int i = 0; i < 4; i++) {
            yard.run(1);
            CHECK.due("given in TICK " + 20 * i, yard.count(5), i + 1);
            CHECK.due("the TASK of the VEHICLE", yard.vehicle(0, 11), i);
            CHECK.due("told(" + i + ", 3)", yard.told(i, 3), 20 * i);
            CHECK.due("its STATION", yard.plan(0, 4 + i % 2, 2), -1);
            yard.run(19);
        }
    }

    private static void leastIdleVehicle() {
        CHECK.about("If a VEHICLE is IDLE, the least such one gets it");
        Yard all = Yard.of("S.....S\nP.....P\n...P...\n");
        for (int i = 0; i < 5; i++) {
            all.task(i % 2, 1 - i % 2);
        }
        all.run(1);
        CHECK.due("given", all.count(5), 3);
        for (int i = 0; i < 3; i++) {
            CHECK.due("the VEHICLE of TASK " + i, all.told(i, 2), i);
            CHECK.due("the TICK of TASK " + i, all.told(i, 3), 0);
            CHECK.due("the TASK of VEHICLE " + i, all.vehicle(i, 11), i);
        }
        Yard second = Yard.of(APART);
        second.task(0, 1);
        second.run(5);
        second.task(2, 3);
        second.run(1);
        CHECK.due("0 is not IDLE: 1 gets it", second.told(1, 2), 1);
        second.run(15);
        CHECK.due("0 is IDLE in TICK 20", second.vehicle(0, 7), 1);
        second.run(10);
        CHECK.due("both are IDLE", second.vehicle(0, 7) + second.vehicle(1, 7), 2);
        second.task(2, 3);
        second.run(1);
        CHECK.due("0 gets it, though it is farther", second.told(2, 2), 0);
    }

    private static void noneIdle() {
        CHECK.about("If a VEHICLE is IDLE: else the TASKS wait");
        Yard yard = Yard.of(APART);
        yard.task(0, 1);
        yard.task(2, 3);
        yard.task(0, 1);
        yard.task(2, 3);
        yard.run(20);
        CHECK.due("given", yard.count(5), 2);
        CHECK.due("told(2, 2)", yard.told(2, 2), -1);
        CHECK.due("told(2, 3)", yard.told(2, 3), -1);
        yard.run(1);
        CHECK.due("given", yard.count(5), 4);
        CHECK.due("told(2, 2)", yard.told(2, 2), 0);
        CHECK.due("told(3, 2)", yard.told(3, 2), 1);
        CHECK.due("told(3, 3)", yard.told(3, 3), 20);
    }

    private static void grantInTheTickOfThePlan() {
        CHECK.about("Then for each VEHICLE with a PLAN: a GRANT in the TICK in which the TASK is given");
        Yard yard = Yard.of(MAP);
        yard.run(5);
        CHECK.due("sent", yard.count(8), 3);
        yard.task(0, 1);
        yard.run(1);
        CHECK.due("the GRANT of TICK 5", yard.count(8), 4);
        CHECK.due("granted", yard.vehicle(0, 13), 1);
        Yard idle = Yard.of(MAP);
        idle.run(6);
        CHECK.due("without a PLAN none", idle.count(8), 3);
    }

    private static void tickIsOneMore() {
        CHECK.about("Then the TICK's number is 1 more (0 at first)");
        Yard yard = Yard.of(MAP);
        for (int tick = 0; tick < 20; tick++) {
            CHECK.due("count(7)", yard.count(7), tick);
            yard.run(1);
        }
    }

    private static Yard lossyHall() {
        Yard yard = Yard.of(HALL);
        yard.row(0, 1, 6, 8, 3, 12, 0, 14, 1, 2, 5);
        for (int i = 0; i < 10; i++) {
            yard.task(i % 6, (i + 1 + i / 6) % 6);
        }
        return yard;
    }

    private static void allComeToTheirEnd() {
        CHECK.about("Vehicles go only where they were granted; all TASKS come to their end");
        Yard whole = lossyHall();
        CHECK.due("FINISHED by the runs", whole.ticks(600), 10);
        CHECK.due("LOST some", whole.count(9) > 0, true);
        for (int v = 0; v < 6; v++) {
            CHECK.due("IDLE", whole.vehicle(v, 7), 1);
            CHECK.due("at home", whole.cell(whole.vehicle(v, 0), 0), 3);
        }
        for (int from = 0; from < 600; from += 25) {
            Yard yard = lossyHall();
            yard.ticks(from);
            for (int i = 0; i < 25; i++) {
                yard.run(1);
                for (int v = 0; v < 6; v++) {
                    CHECK.due("alone in its CELL", yard.cell(yard.vehicle(v, 0), 2), v);
                }
            }
        }
    }
}
