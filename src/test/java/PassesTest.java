/** PASSES, and the last part of a TICK: who is WAITING for a CELL, and which ACTS are granted when. */
public final class PassesTest {
    private static final Check CHECK = new Check("PassesTest");
    private static final int LOST = 1;
    private static final String MAP = "P..S\n...S\n";
    /*
     * 0 has TASK 0 1: 0 1 2 2 5 5 2 1 0 from MOMENT 0 on, 1 has TASK 1 0: at home until MOMENT 5,
     * then 4 5 5 2 2 5 4 3 (TripTest has both).
     */
    private static final String CROSSING = "P.S\nP.S\n";

    public static void main(String[] args) {
        noneIsWaiting();
        asOftenAsItGoesThere();
        waitingOfSixVehicles();
        overByALaterActThatGoes();
        notOverByAStay();
        lastActOfAPlan();
        asTheBaseKnows();
        byTheMoments();
        oneAboveTheTick();
        firstOfTheWaiting();
        behindALateOne();
        againFourTicksLater();
        notAgainWhenKnown();
        againWhereverItIs();
        actsOfTheLatestPlan();
        CHECK.end();
    }

    private static Yard crossing() {
        Yard yard = Yard.of(CROSSING);
        yard.task(0, 1);
        yard.task(1, 0);
        return yard;
    }

    private static void waitingIs(Yard yard, String when, int[] often, int[] first) {
        for (int c = 0; c < often.length; c++) {
            CHECK.due(when + ": cell(" + c + ", 7)", yard.cell(c, 7), often[c]);
            CHECK.due(when + ": cell(" + c + ", 8)", yard.cell(c, 8), first[c]);
        }
    }

    private static void noneIsWaiting() {
        CHECK.about("Promise 10: 7: how many are WAITING, 8: the first of these (NONE): without a PLAN");
        int[] none = {0, 0, 0, 0, 0, 0};
        int[] noFirst = {-1, -1, -1, -1, -1, -1};
        Yard yard = Yard.of(CROSSING);
        waitingIs(yard, "a new MAP", none, noFirst);
        yard.task(0, 1);
        waitingIs(yard, "a TASK that is not given", none, noFirst);
        yard.run(17);
        CHECK.due("FINISHED", yard.count(6), 1);
        waitingIs(yard, "a PLAN that is done whole", none, noFirst);
    }

    private static void asOftenAsItGoesThere() {
        CHECK.about("WAITING are the VEHICLES, each as often as its latest PLAN has an ACT that goes to it");
        Yard one = Yard.of(MAP);
        one.task(0, 1);
        one.run(1);
        waitingIs(one, "one VEHICLE", new int[] {1, 2, 2, 2, 0, 0, 0, 1},
                new int[] {0, 0, 0, 0, -1, -1, -1, 0});
        Yard two = crossing();
        two.run(1);
        waitingIs(two, "two VEHICLES", new int[] {1, 2, 3, 1, 2, 3}, new int[] {0, 0, 0, 1, 1, 0});
    }

    // In TICK 0 no ACT is known to be done: all ACTS of all PLANS that go to a CELL are there.
    private static void waitingOfSixVehicles() {
        CHECK.about("WAITING of as many VEHICLES as there can be: how many, and the first by MOMENTS");
        Yard yard = Yard.of("#S#S#S#\nP.....P\nP.....P\nP.....P\n#S#S#S#\n");
        for (int i = 0; i < 6; i++) {
            yard.task(i, (i + 3) % 6);
        }
        yard.run(1);
        CHECK.due("given", yard.count(5), 6);
        int[] often = new int[35];
        int[] first = new int[35];
        int[] firstMoment = new int[35];
        java.util.Arrays.fill(first, -1);
        for (int v = 0; v < 6; v++) {
            int acts = yard.vehicle(v, 12);
            for (int i = 1; i <= acts; i++) {
                int c = yard.plan(v, i, 2);
                int moment = yard.plan(v, i, 3);
                if (c >= 0) {
                    often[c]++;
                    if (first[c] < 0 || moment < firstMoment[c]) {
                        first[c] = v;
                        firstMoment[c] = moment;
                    }
                }
            }
        }
        waitingIs(yard, "six VEHICLES", often, first);
    }

    private static void overByALaterActThatGoes() {
        CHECK.about("Of which the BASE does not know that it is over (that a later ACT that goes to a CELL is done)");
        Yard yard = crossing();
        yard.run(3);
        CHECK.due("0 did ACT 1, into 1", yard.vehicle(0, 9), 1);
        waitingIs(yard, "TICK 2", new int[] {1, 2, 3, 1, 2, 3}, new int[] {0, 0, 0, 1, 1, 0});
        yard.run(2);
        CHECK.due("0 did ACT 2, into 2: it is out of 1", yard.vehicle(0, 9), 2);
        waitingIs(yard, "TICK 4", new int[] {1, 1, 3, 1, 2, 3}, new int[] {0, 0, 0, 1, 1, 0});
        yard.run(4);
        CHECK.due("0 did ACT 4, into 5: it is out of 2", yard.vehicle(0, 9), 4);
        waitingIs(yard, "TICK 8", new int[] {1, 1, 2, 1, 2, 3}, new int[] {0, 0, 0, 1, 1, 0});
        yard.run(4);
        CHECK.due("0 did ACT 6, into 2: it is out of 5", yard.vehicle(0, 9), 6);
        waitingIs(yard, "TICK 12", new int[] {1, 1, 2, 1, 2, 2}, new int[] {0, 0, 0, 1, 1, 1});
        yard.run(2);
        CHECK.due("0 did ACT 7, into 1: it is out of 2", yard.vehicle(0, 9), 7);
        CHECK.due("1 did ACT 2, into 5: it is out of 4", yard.vehicle(1, 9), 2);
        waitingIs(yard, "TICK 14", new int[] {1, 1, 1, 1, 1, 2}, new int[] {0, 0, 1, 1, 1, 1});
    }

    private static void notOverByAStay() {
        CHECK.about("A later ACT that goes to a CELL: a stay does not make it over");
        Yard yard = crossing();
        yard.run(7);
        CHECK.due("0 did ACT 3, a stay in 2", yard.vehicle(0, 9), 3);
        waitingIs(yard, "TICK 6", new int[] {1, 1, 3, 1, 2, 3}, new int[] {0, 0, 0, 1, 1, 0});
        yard.run(4);
        CHECK.due("0 did ACT 5, a stay in 5", yard.vehicle(0, 9), 5);
        waitingIs(yard, "TICK 10", new int[] {1, 1, 2, 1, 2, 3}, new int[] {0, 0, 0, 1, 1, 0});
    }

    private static void lastActOfAPlan() {
        CHECK.about("An ACT that ends a PLAN is over when the PLAN is known to be done whole");
        Yard yard = crossing();
        yard.run(16);
        CHECK.due("0 is at home", yard.vehicle(0, 3), 8);
        CHECK.due("but that is not known", yard.vehicle(0, 9), 7);
        waitingIs(yard, "TICK 15", new int[] {1, 1, 1, 1, 1, 2}, new int[] {0, 0, 1, 1, 1, 1});
        yard.run(1);
        CHECK.due("then it is", yard.vehicle(0, 9), 8);
        waitingIs(yard, "TICK 16", new int[] {0, 0, 1, 1, 1, 2}, new int[] {-1, -1, 1, 1, 1, 1});
        yard.run(10);
        waitingIs(yard, "TICK 26", new int[] {0, 0, 0, 0, 0, 0}, new int[] {-1, -1, -1, -1, -1, -1});
    }

    // REPORT 5, the first one of ACT 2, and all messages behind it are LOST.
    private static void asTheBaseKnows() {
        CHECK.about("Of which the BASE does not know that it is over: not what the VEHICLE did");
        Yard yard = Yard.of(MAP);
        yard.task(0, 1);
        yard.fates(64);
        for (int m = 5; m < 64; m++) {
            yard.fate(m, LOST);
        }
        yard.run(5);
        CHECK.due("ACT 2 is done", yard.vehicle(0, 3), 2);
        CHECK.due("ACT 1 is known", yard.vehicle(0, 9), 1);
        int[] first = {0, 0, 0, 0, -1, -1, -1, 0};
        waitingIs(yard, "TICK 4", new int[] {1, 2, 2, 2, 0, 0, 0, 1}, first);
        yard.fates(1);
        yard.run(3);
        CHECK.due("ACT 2 is known", yard.vehicle(0, 9), 2);
        waitingIs(yard, "TICK 7", new int[] {1, 1, 2, 2, 0, 0, 0, 1}, first);
    }

    // 0 is done in TICK 16 and has a new PLAN; 1 is late: its MOMENTS are 9 to 13, those of 0 17 to 24.
    private static Yard third() {
        Yard yard = crossing();
        yard.task(0, 1);
        yard.run(17);
        return yard;
    }

    private static void byTheMoments() {
        CHECK.about("WAITING by these ACTS' MOMENTS: not by the VEHICLES' numbers");
        Yard yard = third();
        CHECK.due("0 has its second PLAN", yard.vehicle(0, 10), 2);
        CHECK.due("1 did ACT 3", yard.vehicle(1, 9), 3);
        waitingIs(yard, "TICK 16", new int[] {1, 2, 3, 1, 1, 3}, new int[] {0, 0, 1, 1, 1, 1});
        yard.run(2);
        CHECK.due("1 did ACT 4, into 2", yard.vehicle(1, 9), 4);
        waitingIs(yard, "TICK 18", new int[] {1, 2, 3, 1, 1, 2}, new int[] {0, 0, 1, 1, 1, 1});
        yard.run(4);
        CHECK.due("1 did ACT 6, into 5", yard.vehicle(1, 9), 6);
        waitingIs(yard, "TICK 22", new int[] {1, 2, 2, 1, 1, 2}, new int[] {0, 0, 0, 1, 1, 1});
        yard.run(2);
        CHECK.due("1 did ACT 7, into 4", yard.vehicle(1, 9), 7);
        waitingIs(yard, "TICK 24", new int[] {1, 1, 2, 1, 1, 1}, new int[] {0, 0, 0, 1, 1, 0});
    }

    private static void oneAboveTheTick() {
        CHECK.about("If it was not granted yet, its MOMENT is at most 1 above the TICK's number");
        Yard yard = crossing();
        yard.run(1);
        CHECK.due("ACT 1 of 0 is for MOMENT 1: in TICK 0", yard.vehicle(0, 13), 1);
        CHECK.due("ACT 1 of 1 is for MOMENT 6", yard.plan(1, 1, 3), 6);
        for (int tick = 0; tick <= 4; tick++) {
            CHECK.due("not granted in TICK " + tick, yard.vehicle(1, 13), 0);
            yard.run(1);
        }
        CHECK.due("granted in TICK 5", yard.vehicle(1, 13), 1);
        CHECK.due("not there yet", yard.vehicle(1, 2), 0);
        yard.run(1);
        CHECK.due("done in TICK 6", yard.vehicle(1, 3), 1);
    }

    private static void firstOfTheWaiting() {
        CHECK.about("Or the first of the WAITING of its CELL is this VEHICLE by this ACT");
        Yard yard = crossing();
        yard.run(9);
        CHECK.due("1 is known to be in 4 in TICK 8", yard.vehicle(1, 9), 1);
        for (int tick = 8; tick <= 11; tick++) {
            CHECK.due("5 is not granted in TICK " + tick, yard.vehicle(1, 13), 1);
            CHECK.due("0 is first there", yard.cell(5, 8), 0);
            CHECK.due("1 is in 4", yard.vehicle(1, 0), 4);
            yard.run(1);
        }
        CHECK.due("0 is known to be out of 5 in TICK 12", yard.vehicle(0, 9), 6);
        CHECK.due("5 is granted to 1", yard.vehicle(1, 13), 2);
        yard.run(1);
        CHECK.due("and it goes there", yard.vehicle(1, 0), 5);
        CHECK.about("And it is a stay, or the first of the WAITING: a stay is granted while others are WAITING there");
        yard.run(1);
        CHECK.due("TICK 14: 1 is known to be in 5", yard.vehicle(1, 9), 2);
        CHECK.due("its stay is granted", yard.vehicle(1, 13), 3);
    }

    private static void behindALateOne() {
        CHECK.about("The first of the WAITING: one that is late is ahead of one whose PLAN is younger");
        Yard yard = third();
        int[] granted = {1, 1, 1, 1, 1, 1, 2, 2, 3, 3, 4};
        for (int i = 0; i < granted.length; i++) {
            CHECK.due("granted to 0 in TICK " + (16 + i), yard.vehicle(0, 13), granted[i]);
            CHECK.due("not one CELL for both", yard.vehicle(0, 0) != yard.vehicle(1, 0), true);
            yard.run(1);
        }
        CHECK.due("1 is FINISHED", yard.told(1, 4), 26);
        CHECK.due("until TICK 35 nothing else is", yard.run(8), 0);
        yard.run(1);
        CHECK.due("0 is FINISHED", yard.told(2, 4), 36);
    }

    private static void againFourTicksLater() {
        CHECK.about("If its last GRANT was sent 4 TICKS ago or more, the same one is sent again");
        Yard yard = Yard.of(MAP);
        yard.task(0, 1);
        yard.fate(0, LOST);
        for (int tick = 0; tick <= 20; tick++) {
            yard.run(1);
            int reports = tick / 2 + 1;
            int grants = tick / 4 + 1;
            CHECK.due("sent by TICK " + tick, yard.count(8), reports + grants);
            CHECK.due("granted", yard.vehicle(0, 13), 1);
        }
        yard.fates(1);
        yard.run(4);
        CHECK.due("that of TICK 24 is on its way", yard.vehicle(0, 2), 0);
        yard.run(1);
        CHECK.due("PLAN not known in TICK 25", yard.vehicle(0, 8), 0);
        CHECK.due("the same one: PLAN", yard.vehicle(0, 2), 1);
        CHECK.due("the same one: ACT", yard.vehicle(0, 3), 1);
        CHECK.due("the same one: CELL", yard.vehicle(0, 0), 1);
    }

    // REPORT 2 of ACT 1 comes in TICK 4 or in TICK 5; all others of it are LOST.
    private static void notAgainWhenKnown() {
        CHECK.about("The first ACT not known to be done: one that is known is not sent again");
        Yard inTime = Yard.of(MAP);
        inTime.task(0, 1);
        inTime.row(0, 0, 4, LOST, LOST, 0, 0, 0);
        inTime.run(4);
        CHECK.due("ACT 1 in TICK 3", inTime.vehicle(0, 13), 1);
        inTime.run(1);
        CHECK.due("ACT 2 in TICK 4", inTime.vehicle(0, 13), 2);
        CHECK.due("REPORTS of 0, 1, 2, 4, GRANTS of 0, 4", inTime.count(8), 6);
        inTime.run(1);
        CHECK.due("done in TICK 5", inTime.vehicle(0, 3), 2);
        Yard late = Yard.of(MAP);
        late.task(0, 1);
        late.row(0, 0, 6, LOST, LOST, 0, 0, 0);
        late.run(5);
        CHECK.due("ACT 1 again in TICK 4", late.vehicle(0, 13), 1);
        CHECK.due("REPORTS of 0, 1, 2, 4, GRANTS of 0, 4", late.count(8), 6);
        late.run(1);
        CHECK.due("ACT 2 in TICK 5, for MOMENT 2", late.vehicle(0, 13), 2);
        CHECK.due("it is sent", late.count(8), 7);
        late.run(1);
        CHECK.due("done in TICK 6", late.vehicle(0, 3), 2);
    }

    // Stays, ACTS to a CELL and the last ACT: each GRANT is LOST once.
    private static void againWhereverItIs() {
        CHECK.about("If it was granted .. the same one is sent again: each ACT of a PLAN");
        Yard clean = Yard.of(MAP);
        clean.task(0, 1);
        clean.run(21);
        CHECK.due("without losses", clean.told(0, 4), 20);
        for (int act = 1; act <= 10; act++) {
            Yard yard = Yard.of(MAP);
            yard.task(0, 1);
            yard.fates(64);
            yard.fate(3 * act - 2, LOST);
            yard.run(2 * act);
            CHECK.due("ACT " + act + " is granted", yard.vehicle(0, 13), act);
            CHECK.due("and not done", yard.vehicle(0, 3), act - 1);
            yard.run(3);
            CHECK.due("nor three TICKS later", yard.vehicle(0, 3), act - 1);
            yard.run(1);
            CHECK.due("but four TICKS later", yard.vehicle(0, 3), act);
            yard.run(50);
            CHECK.due("with the GRANT of ACT " + act + " LOST", yard.told(0, 4), 24);
        }
    }

    // In TICK 30 both get a second PLAN like their first one; 1 did ACT 8 of the first one last.
    private static void actsOfTheLatestPlan() {
        CHECK.about("For each VEHICLE with a PLAN: n is the first ACT of it not known to be done");
        Yard yard = crossing();
        yard.run(30);
        CHECK.due("both are FINISHED", yard.count(6), 2);
        CHECK.due("granted of the first PLAN of 1", yard.vehicle(1, 13), 8);
        yard.task(0, 1);
        yard.task(1, 0);
        yard.run(1);
        int[] due = {0, 2, 3, 8, 0};
        for (int i = 0; i < due.length; i++) {
            int what = new int[] {7, 10, 11, 12, 13}[i];
            CHECK.due("vehicle(1, " + what + ")", yard.vehicle(1, what), due[i]);
        }
        CHECK.due("known is the first PLAN", yard.vehicle(1, 8), 1);
        CHECK.due("and its ACT 8", yard.vehicle(1, 9), 8);
        waitingIs(yard, "TICK 30", new int[] {1, 2, 3, 1, 2, 3}, new int[] {0, 0, 0, 1, 1, 0});
        yard.run(4);
        CHECK.due("none in TICK 34", yard.vehicle(1, 13), 0);
        yard.run(1);
        CHECK.due("ACT 1 in TICK 35", yard.vehicle(1, 13), 1);
    }
}
