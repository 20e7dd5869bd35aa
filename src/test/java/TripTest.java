/** Part II and promises 12 and 13: what a TRIP may do, what is CLEAR, which TRIP is THE PLAN. */
public final class TripTest {
    private static final Check CHECK = new Check("TripTest");
    private static final int LEAST = Integer.MIN_VALUE;
    private static final int GREATEST = Integer.MAX_VALUE;
    private static final String CROSSING = "P.S\nP.S\n";
    // PARKING 12 in the middle, STATIONS 0, 4, 20, 24 in the corners.
    private static final String SQUARE = "S...S\n.....\n..P..\n.....\nS...S\n";
    // To STATION 0, to STATION 1 and home again are 298 moves, with the two stays 300 STEPS.
    private static final String LONGEST = Maps.maze("P57 S28 S201");
    // From STATION 0 to STATION 2 there are 302 STEPS, from 1 to 2 there are fewer.
    private static final String TOO_LONG = Maps.maze("P57 S28 S40 S111");
    // For TASK 0 2 VEHICLE 0, beside STATION 0, needs 266 STEPS, VEHICLE 1 302.
    private static final String SECOND_IS_FAR = Maps.maze("P29 P57 S28 S40 S111");
    // For TASK 0 1 VEHICLE 0 needs 302 STEPS, VEHICLE 1 by itself 170.
    private static final String FIRST_IS_FAR = Maps.maze("P28 P186 S57 S198");
    // For TASK 0 1 VEHICLE 0 needs 302 STEPS.
    private static final String SIX_FAR = Maps.maze("P28 P39 P45 P111 P133 P248 S56 S186");
    // Behind VEHICLE 0 with TASK 1 0, VEHICLE 1 with TASK 0 1 must wait 33 STEPS: 301 in all.
    private static final String ONE_TOO_LONG = Maps.maze("P39 P198 S42 S90");

    public static void main(String[] args) {
        staysAndGoes();
        noOtherStation();
        noOtherParking();
        passingItsStations();
        passingItsParking();
        passingWithoutStaying();
        stayingWithoutEffect();
        waitsAreNoActs();
        momentOfAnAct();
        endsInAtItsFirstMoment();
        endsInAtItsSecondMoment();
        beginsInAtItsSecondMoment();
        stayingIsAStepToo();
        stayingAheadOfGoing();
        sidesInTheirOrder();
        threeHundredSteps();
        moreThanThreeHundred();
        threeHundredAndOne();
        othersThatWouldHaveAPlan();
        laterVehicleWithoutPlan();
        sixVehiclesWithoutPlan();
        noPlanIsForgottenWithTheMap();
        planFromTheTick();
        noneMeetsAnother();
        tripWithoutOne();
        tripOfMoments();
        tripIsTheLatest();
        planWithoutOne();
        planOfMoments();
        planOfActs();
        CHECK.end();
    }

    /** The whole TRIP, a MOMENT ahead of it and some behind it, and the ACTS that follow from it. */
    private static void tripIs(Yard yard, int v, int first, int a, int b, int... cells) {
        int last = first + cells.length - 1;
        CHECK.due("plan(" + v + ", 0, 0)", yard.plan(v, 0, 0), first);
        CHECK.due("plan(" + v + ", 0, 1)", yard.plan(v, 0, 1), last);
        for (int i = 0; i < cells.length; i++) {
            CHECK.due("trip(" + v + ", " + (first + i) + ")", yard.trip(v, first + i), cells[i]);
        }
        CHECK.due("ahead of the TRIP", yard.trip(v, Math.max(first - 1, 0)), cells[0]);
        CHECK.due("behind the TRIP", yard.trip(v, last + 1), cells[0]);
        int act = 0;
        int stays = 0;
        for (int i = 1; i < cells.length; i++) {
            boolean goes = cells[i] != cells[i - 1];
            boolean turns = !goes && cells[i] == (stays == 0 ? a : b) && stays < 2;
            if (goes || turns) {
                act++;
                stays += turns ? 1 : 0;
                actIs(yard, v, act, goes ? cells[i] : -1, first + i);
            }
        }
        CHECK.due("LOADED and DONE", stays, 2);
        CHECK.due("vehicle(" + v + ", 12)", yard.vehicle(v, 12), act);
        actIs(yard, v, act + 1, -1, -1);
    }

    private static void actIs(Yard yard, int v, int i, int cell, int moment) {
        CHECK.due("plan(" + v + ", " + i + ", 2)", yard.plan(v, i, 2), cell);
        CHECK.due("plan(" + v + ", " + i + ", 3)", yard.plan(v, i, 3), moment);
    }

    private static Yard given(String text, int... tasks) {
        Yard yard = Yard.of(text);
        for (int i = 0; i < tasks.length; i += 2) {
            yard.task(tasks[i], tasks[i + 1]);
        }
        yard.run(1);
        return yard;
    }

    /** The second TASK comes that many TICKS behind the first one. */
    private static Yard givenApart(String text, int a, int b, int ticks, int c, int d) {
        Yard yard = Yard.of(text);
        yard.task(a, b);
        yard.run(ticks);
        yard.task(c, d);
        yard.run(1);
        return yard;
    }

    private static void staysAndGoes() {
        CHECK.about("At t it is in its PARKING, empty; LOADED by staying at a, DONE by staying at b; ends in its PARKING");
        tripIs(given("P..S\n...S\n", 0, 1), 0, 0, 3, 7, 0, 1, 2, 3, 3, 7, 7, 3, 2, 1, 0);
        tripIs(given("P..S\n...S\n", 1, 0), 0, 0, 7, 3, 0, 1, 2, 3, 7, 7, 3, 3, 2, 1, 0);
    }

    private static void noOtherStation() {
        CHECK.about("To no ENDPOINT other than a, b, its PARKING: not through another STATION");
        tripIs(given("P.S.S\n..#S.\n#....\n", 1, 2), 0, 0, 4, 8,
                0, 1, 6, 11, 12, 13, 8, 3, 4, 4, 9, 8, 8, 13, 12, 11, 6, 1, 0);
    }

    private static void noOtherParking() {
        CHECK.about("To no ENDPOINT other than a, b, its PARKING: not through another PARKING");
        tripIs(given("PPS\n...\nS..\n", 0, 1), 0, 0, 2, 6, 0, 3, 4, 5, 2, 2, 5, 8, 7, 6, 6, 3, 0);
        // Nor while its VEHICLE is away: 1 is at home no more at MOMENT 3.
        Yard yard = Yard.of("PPS\n...\nS..\n");
        yard.task(1, 0);
        yard.task(1, 0);
        yard.run(1);
        CHECK.due("1 is away", yard.trip(1, yard.plan(1, 1, 3)) != 1, true);
        for (int t = 0; t <= 40; t++) {
            CHECK.due("0 is never in PARKING 1", yard.trip(0, t) != 1, true);
            CHECK.due("1 is never in PARKING 0", yard.trip(1, t) != 0, true);
        }
    }

    private static void passingItsStations() {
        CHECK.about("To no ENDPOINT other than a, b: these it may pass");
        tripIs(given("P.S.S\n..#S.\n#....\n", 1, 0), 0, 0, 4, 2, 0, 1, 2, 3, 4, 4, 3, 2, 2, 1, 0);
        tripIs(given("P.S.S\n..#S.\n#....\n", 0, 1), 0, 0, 2, 4, 0, 1, 2, 2, 3, 4, 4, 3, 2, 1, 0);
    }

    private static void passingItsParking() {
        CHECK.about("It ends as it is in its PARKING, DONE: not while it is empty or LOADED");
        tripIs(given("SPS\n...\n", 0, 1), 0, 0, 0, 2, 1, 0, 0, 1, 2, 2, 1);
        // LOADED it stays there too.
        Yard yard = given("P.P\nS.S\n", 0, 1, 1, 0);
        tripIs(yard, 0, 0, 3, 5, 0, 3, 3, 4, 5, 5, 4, 1, 0);
        tripIs(yard, 1, 0, 5, 3, 2, 5, 5, 2, 2, 2, 2, 5, 4, 3, 3, 4, 1, 2);
    }

    private static void passingWithoutStaying() {
        CHECK.about("Staying at a, b it is LOADED, DONE: not by passing");
        Yard empty = givenApart(".S#\nP.P\n..S\n", 1, 0, 3, 0, 1);
        tripIs(empty, 0, 0, 8, 1, 3, 4, 7, 8, 8, 7, 4, 1, 1, 4, 3);
        tripIs(empty, 1, 3, 1, 8, 5, 4, 1, 0, 0, 0, 0, 1, 1, 4, 5, 8, 8, 5);
        Yard loaded = givenApart(".SP#\nP..S\nS.P.\n", 2, 1, 1, 0, 1);
        tripIs(loaded, 0, 0, 8, 7, 2, 6, 5, 9, 8, 8, 9, 5, 6, 7, 7, 6, 2);
        tripIs(loaded, 1, 1, 1, 7, 4, 0, 1, 1, 5, 6, 7, 11, 11, 11, 11, 7, 7, 6, 5, 4);
    }

    private static void stayingWithoutEffect() {
        CHECK.about("Staying at a while empty, at b while LOADED: else it does nothing");
        // Empty at b, then at a.
        Yard empty = givenApart("PS#\n...\nPSS\n", 1, 2, 2, 2, 0);
        tripIs(empty, 0, 0, 7, 8, 0, 3, 4, 7, 7, 8, 8, 5, 4, 3, 0);
        tripIs(empty, 1, 2, 8, 1, 6, 6, 6, 3, 4, 1, 1, 1, 4, 5, 8, 8, 5, 4, 1, 1, 4, 3, 6);
        // LOADED at a.
        Yard loaded = given("P.P#\nS..S\n", 0, 1, 0, 1);
        tripIs(loaded, 1, 0, 4, 7, 2, 2, 2, 2, 2, 1, 5, 4, 4, 4, 5, 6, 7, 7, 6, 2);
        // DONE at b.
        Yard done = given(".S\nP.\nP.\nS.\n", 0, 1, 1, 0);
        tripIs(done, 0, 0, 1, 6, 2, 0, 1, 1, 3, 5, 7, 6, 6, 7, 5, 3, 2);
        tripIs(done, 1, 0, 6, 1, 4, 4, 4, 4, 6, 6, 4, 4, 5, 3, 1, 1, 1, 3, 5, 4);
        // DONE at a.
        Yard behind = Yard.of("#.P.S\n.#P.S\nP...S\n");
        behind.task(2, 1);
        behind.run(4);
        behind.task(0, 2);
        behind.task(1, 2);
        behind.run(1);
        tripIs(behind, 0, 0, 14, 9, 2, 3, 8, 9, 14, 14, 9, 9, 8, 3, 2);
        tripIs(behind, 1, 4, 4, 14, 7, 7, 8, 3, 4, 4, 4, 3, 8, 13, 14, 14, 13, 8, 7);
        tripIs(behind, 2, 4, 9, 14, 10, 11, 12, 13, 14, 9, 9, 14, 14, 9, 9, 9, 9, 14, 13, 12, 11, 10);
    }

    private static void waitsAreNoActs() {
        CHECK.about("PASSES: STEPS to another CELL, and the two stays by which it is LOADED, DONE, are its ACTS");
        Yard yard = given(CROSSING, 0, 1, 1, 0);
        int[] cells = {4, 5, -1, 2, -1, 5, 4, 3};
        int[] moments = {6, 7, 8, 9, 10, 11, 12, 13};
        for (int i = 0; i < cells.length; i++) {
            actIs(yard, 1, i + 1, cells[i], moments[i]);
        }
        actIs(yard, 1, 9, -1, -1);
        CHECK.due("ACTS", yard.vehicle(1, 12), 8);
        CHECK.due("STEPS", yard.plan(1, 0, 1), 13);
        // A wait on FLOOR, LOADED, between ACTS 3 and 4.
        Yard floor = given("SP\n..\nS.\nP.\n", 0, 1, 1, 0);
        tripIs(floor, 0, 0, 0, 4, 1, 0, 0, 2, 4, 4, 2, 0, 1);
        tripIs(floor, 1, 0, 4, 0, 6, 4, 4, 5, 5, 5, 5, 3, 2, 0, 0, 2, 4, 6);
        actIs(floor, 1, 3, 5, 3);
        actIs(floor, 1, 4, 3, 7);
    }

    private static void momentOfAnAct() {
        CHECK.about("PASSES: an ACT's MOMENT is the second one of its STEP");
        Yard yard = Yard.of("P..S\n...S\n");
        yard.run(7);
        yard.task(0, 1);
        yard.run(1);
        CHECK.due("the PLAN's first MOMENT", yard.plan(0, 1, 0), 7);
        actIs(yard, 0, 1, 1, 8);
        actIs(yard, 0, 10, 0, 17);
        CHECK.due("the PLAN's last MOMENT", yard.plan(0, 1, 1), 17);
    }

    // 1 would go up from 4 in STEP 4, by which 0 leaves that CELL: it goes by its PARKING.
    private static void endsInAtItsFirstMoment() {
        CHECK.about("CLEAR: no other VEHICLE has the CELL it ends in at the first MOMENT");
        Yard yard = given("S.P\nP.S\n", 0, 1, 1, 0);
        tripIs(yard, 0, 0, 0, 5, 2, 1, 0, 0, 1, 2, 5, 5, 2);
        tripIs(yard, 1, 0, 5, 0, 3, 4, 5, 5, 4, 3, 0, 0, 3);
        Yard behind = given("P##S\n....\nP##S\n", 0, 1, 1, 0);
        CHECK.due("0 is in 4 at 13", behind.trip(0, 13), 4);
        CHECK.due("1 is at home at 14", behind.trip(1, 14), 8);
        CHECK.due("1 is in 4 at 15", behind.trip(1, 15), 4);
        CHECK.due("the last MOMENT of 1", behind.plan(1, 0, 1), 28);
    }

    private static void endsInAtItsSecondMoment() {
        CHECK.about("CLEAR: no other VEHICLE has the CELL it ends in at the second MOMENT");
        Yard yard = given("SP\n..\nSP\n", 1, 0, 0, 1);
        tripIs(yard, 0, 0, 4, 0, 1, 3, 2, 4, 4, 2, 0, 0, 1);
        tripIs(yard, 1, 0, 0, 4, 5, 5, 5, 5, 5, 5, 5, 3, 2, 0, 0, 2, 4, 4, 5);
    }

    // 1 could be LOADED in 5 and leave it in the STEP by which 0 comes there, but for this.
    private static void beginsInAtItsSecondMoment() {
        CHECK.about("CLEAR: no other VEHICLE has the CELL it begins in at the second MOMENT");
        Yard yard = givenApart("SP\n..\nPS\n", 0, 1, 2, 1, 0);
        tripIs(yard, 0, 0, 0, 5, 1, 0, 0, 1, 3, 5, 5, 3, 1);
        tripIs(yard, 1, 2, 5, 0, 4, 4, 4, 4, 4, 4, 5, 5, 3, 2, 0, 0, 2, 4);
    }

    private static void stayingIsAStepToo() {
        CHECK.about("CLEAR: a STEP (also one that stays)");
        Yard yard = givenApart("S.P\nS.P\n", 0, 1, 1, 0, 1);
        tripIs(yard, 0, 0, 0, 3, 2, 1, 0, 0, 3, 3, 0, 1, 2);
        tripIs(yard, 1, 1, 0, 3, 5, 5, 5, 5, 5, 4, 3, 0, 0, 3, 3, 4, 5);
    }

    private static void stayingAheadOfGoing() {
        CHECK.about("Of equal ones the first by its STEPS: staying ahead of 0, 1, 2, 3");
        Yard yard = given(CROSSING, 0, 1, 1, 0);
        tripIs(yard, 0, 0, 2, 5, 0, 1, 2, 2, 5, 5, 2, 1, 0);
        // It could wait in 4 as well, but does so at home, as early as it can.
        tripIs(yard, 1, 0, 5, 2, 3, 3, 3, 3, 3, 3, 4, 5, 5, 2, 2, 5, 4, 3);
    }

    private static void sidesInTheirOrder() {
        CHECK.about("Of equal ones the first by its STEPS: 0 ahead of 1 ahead of 2 ahead of 3");
        // 0 ahead of 3, then 2 ahead of 3.
        tripIs(given(SQUARE, 0, 1), 0, 0, 0, 4, 12, 7, 2, 1, 0, 0, 1, 2, 3, 4, 4, 9, 14, 13, 12);
        // 0 ahead of 1, then 1 ahead of 2.
        tripIs(given(SQUARE, 1, 0), 0, 0, 4, 0, 12, 7, 2, 3, 4, 4, 3, 2, 1, 0, 0, 1, 2, 7, 12);
        // 2 ahead of 3, then 0 ahead of 3.
        tripIs(given(SQUARE, 2, 3), 0, 0, 20, 24,
                12, 17, 22, 21, 20, 20, 21, 22, 23, 24, 24, 19, 14, 13, 12);
        // 1 ahead of 2, then 0 ahead of 1.
        tripIs(given(SQUARE, 3, 2), 0, 0, 24, 20,
                12, 13, 14, 19, 24, 24, 23, 22, 21, 20, 20, 15, 10, 11, 12);
        // 0 ahead of 2, around a WALL.
        tripIs(given("...S\nP#S#\n...#\n", 1, 0), 0, 0, 6, 3, 4, 0, 1, 2, 6, 6, 2, 3, 3, 2, 1, 0, 4);
        // 1 ahead of 3, around a WALL.
        tripIs(given(".P.\n.#.\n.S.\nS##\n", 0, 1), 0, 0, 7, 9, 1, 2, 5, 8, 7, 7, 6, 9, 9, 6, 3, 0, 1);
    }

    private static void threeHundredSteps() {
        CHECK.about("With the fewest STEPS, 300 at most: 300 are a PLAN");
        Yard yard = given(LONGEST, 0, 1);
        CHECK.due("CELLS", yard.count(0), 256);
        CHECK.due("given", yard.count(5), 1);
        CHECK.due("first MOMENT", yard.plan(0, 0, 0), 0);
        CHECK.due("last MOMENT", yard.plan(0, 0, 1), 300);
        CHECK.due("ACTS", yard.vehicle(0, 12), 300);
        CHECK.due("not yet at home", yard.trip(0, 299) != 57, true);
        CHECK.due("at home", yard.trip(0, 300), 57);
        actIs(yard, 0, 300, 57, 300);
        actIs(yard, 0, 301, -1, -1);
        CHECK.due("ACT 299 goes", yard.plan(0, 299, 2), yard.trip(0, 299));
    }

    private static void moreThanThreeHundred() {
        CHECK.about("300 at most: with 302 there is no PLAN, and that TASK and all behind it wait");
        Yard yard = given(TOO_LONG, 0, 2, 1, 2);
        CHECK.due("run(50)", yard.run(50), 0);
        CHECK.due("came", yard.count(4), 2);
        CHECK.due("given", yard.count(5), 0);
        CHECK.due("IDLE", yard.vehicle(0, 7), 1);
        CHECK.due("told(0, 2)", yard.told(0, 2), -1);
        CHECK.due("told(1, 2)", yard.told(1, 2), -1);
        CHECK.due("no PLAN", yard.plan(0, 0, 0), -1);
        CHECK.due("the TASK behind it has one by itself", given(TOO_LONG, 1, 2).count(5), 1);
    }

    // In TICK 1 one wait less is needed.
    private static void threeHundredAndOne() {
        CHECK.about("300 at most: with 301 there is no PLAN yet, with 300 there is");
        Yard yard = given(ONE_TOO_LONG, 1, 0, 0, 1);
        CHECK.due("VEHICLE 0 has its PLAN", yard.told(0, 2), 0);
        CHECK.due("VEHICLE 1 has none in TICK 0", yard.told(1, 2), -1);
        CHECK.due("it is IDLE", yard.vehicle(1, 7), 1);
        yard.run(1);
        CHECK.due("it has one in TICK 1", yard.told(1, 2), 1);
        CHECK.due("told(1, 3)", yard.told(1, 3), 1);
        CHECK.due("first MOMENT", yard.plan(1, 0, 0), 1);
        CHECK.due("last MOMENT", yard.plan(1, 0, 1), 301);
        CHECK.due("ACTS", yard.vehicle(1, 12), 268);
    }

    private static void othersThatWouldHaveAPlan() {
        CHECK.about("The least such one gets it, if there is a PLAN; if there is none, that TASK waits");
        Yard yard = given(FIRST_IS_FAR, 0, 1);
        CHECK.due("VEHICLES", yard.count(2), 2);
        yard.run(20);
        CHECK.due("VEHICLE 0 has no PLAN, VEHICLE 1 is not asked", yard.count(5), 0);
        CHECK.due("told(0, 2)", yard.told(0, 2), -1);
        Yard alone = given(Maps.maze("P186 S57 S198"), 0, 1);
        CHECK.due("alone it would have one", alone.told(0, 2), 0);
        CHECK.due("of 170 STEPS", alone.plan(0, 0, 1), 170);
    }

    private static void laterVehicleWithoutPlan() {
        CHECK.about("If there is none, that TASK waits: until a lesser VEHICLE is IDLE that has one");
        Yard yard = given(SECOND_IS_FAR, 0, 2, 0, 2, 2, 1);
        CHECK.due("VEHICLES", yard.count(2), 2);
        CHECK.due("VEHICLE 0 gets one, VEHICLE 1 none", yard.count(5), 1);
        int last = yard.plan(0, 0, 1);
        CHECK.due("FINISHED", yard.ticks(2 * last - 1), 0);
        CHECK.due("they wait", yard.count(5), 1);
        CHECK.due("FINISHED", yard.run(1), 1);
        CHECK.due("VEHICLE 0 gets the next one", yard.told(1, 2), 0);
        CHECK.due("at once", yard.told(1, 3), 2 * last);
        CHECK.due("VEHICLE 1 gets the third, for which it has a PLAN", yard.told(2, 2), 1);
        CHECK.due("at once", yard.told(2, 3), 2 * last);
    }

    private static void sixVehiclesWithoutPlan() {
        CHECK.about("If there is none, that TASK waits: with as many VEHICLES as there can be");
        Yard yard = given(SIX_FAR, 0, 1);
        CHECK.due("VEHICLES", yard.count(2), 6);
        yard.run(9);
        CHECK.due("given", yard.count(5), 0);
        CHECK.due("told(0, 2)", yard.told(0, 2), -1);
        for (int v = 0; v < 6; v++) {
            CHECK.due("IDLE", yard.vehicle(v, 7), 1);
        }
    }

    private static void noPlanIsForgottenWithTheMap() {
        CHECK.about("A TASK of a new MAP has a PLAN though that of an old one had none");
        Yard yard = given(TOO_LONG, 0, 2);
        yard.run(3);
        CHECK.due("given", yard.count(5), 0);
        yard.write("P..S\n...S\n");
        yard.read();
        yard.task(0, 1);
        yard.run(1);
        CHECK.due("given", yard.count(5), 1);
    }

    private static void planFromTheTick() {
        CHECK.about("A PLAN from the MOMENT on that is the TICK's number");
        Yard yard = Yard.of(SQUARE);
        yard.run(5);
        yard.task(1, 0);
        yard.run(1);
        tripIs(yard, 0, 5, 4, 0, 12, 7, 2, 3, 4, 4, 3, 2, 1, 0, 0, 1, 2, 7, 12);
    }

    private static void noneMeetsAnother() {
        CHECK.about("Trips are planned in space and time so that none meets another");
        int[] ticks = {1, 9, 25, 40, 60, 90};
        for (int n : ticks) {
            Yard yard = Yard.of("#S#S#S#\nP.....P\nP.....P\nP.....P\n#S#S#S#\n");
            for (int i = 0; i < 12; i++) {
                yard.task(i % 6, (i * 5 + 3 + i / 6) % 6);
            }
            yard.ticks(n);
            CHECK.due("given", yard.count(5) >= 6, true);
            tripsAreClear(yard, n - 1, n + 75);
        }
    }

    private static void tripsAreClear(Yard yard, int from, int to) {
        int[][] cells = new int[6][to - from + 1];
        for (int v = 0; v < 6; v++) {
            for (int t = from; t <= to; t++) {
                cells[v][t - from] = yard.trip(v, t);
            }
        }
        for (int v = 0; v < 6; v++) {
            for (int u = 0; u < v; u++) {
                for (int i = 0; i < to - from; i++) {
                    boolean meet = cells[v][i] == cells[u][i] || cells[v][i + 1] == cells[u][i]
                            || cells[v][i] == cells[u][i + 1];
                    CHECK.due(v + " and " + u + " meet at " + (from + i), meet, false);
                }
            }
        }
    }

    private static void tripWithoutOne() {
        CHECK.about("Promise 12: its PARKING without one");
        Yard yard = Yard.of("S..S\n.PP.\n");
        int[] moments = {0, 1, 300, 600, GREATEST};
        for (int t : moments) {
            CHECK.due("trip(0, " + t + ")", yard.trip(0, t), 5);
            CHECK.due("trip(1, " + t + ")", yard.trip(1, t), 6);
        }
        CHECK.about("Promise 12: NONE: no such VEHICLE, t below 0");
        int[] below = {-1, -2, LEAST};
        for (int t : below) {
            CHECK.due("trip(0, " + t + ")", yard.trip(0, t), -1);
            CHECK.due("trip(1, " + t + ")", yard.trip(1, t), -1);
            CHECK.due("trip(2, " + t + ")", yard.trip(2, t), -1);
        }
        int[] none = {-1, 2, 3, 6, LEAST, GREATEST};
        for (int v : none) {
            CHECK.due("trip(" + v + ", 0)", yard.trip(v, 0), -1);
            CHECK.due("trip(" + v + ", 5)", yard.trip(v, 5), -1);
        }
    }

    private static void tripOfMoments() {
        CHECK.about("Promise 12: the CELL at MOMENT t: its PARKING ahead of its TRIP and from its end on");
        Yard yard = Yard.of("P..S\n...S\n");
        yard.run(4);
        yard.task(0, 1);
        yard.run(1);
        int[] cells = {0, 0, 0, 0, 0, 1, 2, 3, 3, 7, 7, 3, 2, 1, 0, 0};
        for (int t = 0; t < cells.length; t++) {
            CHECK.due("trip(0, " + t + ")", yard.trip(0, t), cells[t]);
        }
        CHECK.due("trip(0, greatest)", yard.trip(0, GREATEST), 0);
        CHECK.due("trip(0, -1)", yard.trip(0, -1), -1);
        CHECK.due("trip(0, least)", yard.trip(0, LEAST), -1);
        CHECK.due("trip(1, 6)", yard.trip(1, 6), -1);
        yard.run(30);
        CHECK.due("it is the latest still, when it is done: trip(0, 8)", yard.trip(0, 8), 3);
    }

    private static void tripIsTheLatest() {
        CHECK.about("Promise 12: by its latest TRIP");
        Yard yard = given("P..S\n...S\n", 0, 1, 1, 0);
        CHECK.due("the first TRIP: trip(0, 4)", yard.trip(0, 4), 3);
        yard.run(19);
        CHECK.due("until TICK 19: trip(0, 4)", yard.trip(0, 4), 3);
        CHECK.due("trip(0, 24)", yard.trip(0, 24), 0);
        yard.run(1);
        CHECK.due("the second TRIP: trip(0, 4)", yard.trip(0, 4), 0);
        tripIs(yard, 0, 20, 7, 3, 0, 1, 2, 3, 7, 7, 3, 3, 2, 1, 0);
    }

    private static void planWithoutOne() {
        CHECK.about("Promise 13: NONE for others (without a PLAN)");
        Yard yard = Yard.of("P.S\nP.S\n");
        yard.task(0, 1);
        yard.run(1);
        int[] none = {1, 2, -1, 6, LEAST, GREATEST};
        for (int v : none) {
            for (int what = -1; what <= 4; what++) {
                CHECK.due("plan(" + v + ", 0, " + what + ")", yard.plan(v, 0, what), -1);
                CHECK.due("plan(" + v + ", 1, " + what + ")", yard.plan(v, 1, what), -1);
            }
        }
        CHECK.due("VEHICLE 0 has one", yard.plan(0, 1, 2), 1);
    }

    private static void planOfMoments() {
        CHECK.about("Promise 13: the first MOMENT (0), the last one (1): i is not looked at");
        Yard yard = Yard.of("P..S\n...S\n");
        yard.run(3);
        yard.task(0, 1);
        yard.run(1);
        int[] any = {0, 1, 10, 11, -1, LEAST, GREATEST};
        for (int i : any) {
            CHECK.due("plan(0, " + i + ", 0)", yard.plan(0, i, 0), 3);
            CHECK.due("plan(0, " + i + ", 1)", yard.plan(0, i, 1), 13);
        }
    }

    private static void planOfActs() {
        CHECK.about("Promise 13: of ACT i (from 1 on): the CELL (2; NONE: a stay; no such ACT), its MOMENT (3)");
        Yard yard = given("P..S\n...S\n", 0, 1);
        int[] cells = {1, 2, 3, -1, 7, -1, 3, 2, 1, 0};
        for (int i = 1; i <= cells.length; i++) {
            actIs(yard, 0, i, cells[i - 1], i);
        }
        int[] none = {0, -1, 11, 12, 300, 301, 302, LEAST, GREATEST};
        for (int i : none) {
            actIs(yard, 0, i, -1, -1);
        }
        CHECK.about("Promise 13: NONE for others");
        int[] others = {-1, 4, 5, LEAST, GREATEST};
        for (int what : others) {
            CHECK.due("plan(0, 1, " + what + ")", yard.plan(0, 1, what), -1);
            CHECK.due("plan(0, 0, " + what + ")", yard.plan(0, 0, what), -1);
        }
    }
}
