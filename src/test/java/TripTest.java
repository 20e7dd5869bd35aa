/** Promises 12 and 13 and part II: the fewest steps, the first of equal ones, none meets another. */
public final class TripTest {
    private static final Check CHECK = new Check("TripTest");
    private static final String CROSSING = "P.S\nP.S\n";
    // The ways between these ends are 298 and 300 steps long in all, with two stays 300 and 302.
    private static final String LONGEST = """
            .......#...#...#
            .#####...#.#S#..
            ..#...#.##..#.#.
            #.#.#..#.P#...#.
            ..#..#..#..##...
            .#.#..#..#..####
            ....#..#..#...#.
            ###..#..#..##...
            ...#..#..#...##.
            .#...###..##..#.
            .####...#...#...
            ..#...#..#...###
            #.#.##.#.S##...#
            ..#....#..####..
            .#.###.##.#...#.
            .......#....#...
            """;
    private static final String TOO_LONG = LONGEST.replace("#.##.#.S##", "#.##.#..##")
            .replace("..#...#.\n###", "..#...#S\n###").replace(".##..#.#.", ".S#..#.#.");

    public static void main(String[] args) {
        withoutTrip();
        firstOfEqualOnes();
        passingEndpoints();
        waitingForAnother();
        longest();
        tooLong();
        tooLongForOneOfTwo();
        tooLongIsForgottenWithTheMap();
        noneMeetsAnother();
        CHECK.end();
    }

    private static void tripIs(FleetYard yard, int v, int from, int... cells) {
        for (int i = 0; i < cells.length; i++) {
            CHECK.due("trip(" + v + ", " + (from + i) + ")", yard.trip(v, from + i), cells[i]);
        }
    }

    private static void actIs(FleetYard yard, int v, int i, int cell, int moment) {
        CHECK.due("plan(" + v + ", " + i + ", 2)", yard.plan(v, i, 2), cell);
        CHECK.due("plan(" + v + ", " + i + ", 3)", yard.plan(v, i, 3), moment);
    }

    private static void withoutTrip() {
        FleetYard yard = Check.yardOf("S..S\n.PP.\n");
        tripIs(yard, 0, 0, 5, 5, 5);
        tripIs(yard, 1, 0, 6, 6, 6);
        CHECK.due("trip far on", yard.trip(1, Integer.MAX_VALUE), 6);
        CHECK.due("trip(0, -1)", yard.trip(0, -1), -1);
        CHECK.due("trip(0, least)", yard.trip(0, Integer.MIN_VALUE), -1);
        CHECK.due("trip(2, 0)", yard.trip(2, 0), -1);
        CHECK.due("trip(-1, 0)", yard.trip(-1, 0), -1);
        for (int what = -1; what <= 4; what++) {
            CHECK.due("plan(0, 1, " + what + ")", yard.plan(0, 1, what), -1);
            CHECK.due("plan(2, 1, " + what + ")", yard.plan(2, 1, what), -1);
            CHECK.due("plan(-1, 1, " + what + ")", yard.plan(-1, 1, what), -1);
        }
    }

    private static void firstOfEqualOnes() {
        FleetYard yard = Check.yardOf("P..\n...\nS.S\n");
        yard.task(0, 1);
        yard.run(3);
        tripIs(yard, 0, 0, 0, 3, 6, 6, 7, 8, 8, 5, 2, 1, 0, 0);
        CHECK.due("first MOMENT", yard.plan(0, 0, 0), 0);
        CHECK.due("last MOMENT", yard.plan(0, 77, 1), 10);
        actIs(yard, 0, 1, 3, 1);
        actIs(yard, 0, 2, 6, 2);
        actIs(yard, 0, 3, -1, 3);
        actIs(yard, 0, 4, 7, 4);
        actIs(yard, 0, 10, 0, 10);
        actIs(yard, 0, 11, -1, -1);
        actIs(yard, 0, 0, -1, -1);
        actIs(yard, 0, Integer.MIN_VALUE, -1, -1);
        actIs(yard, 0, Integer.MAX_VALUE, -1, -1);
        CHECK.due("plan(0, 1, 4)", yard.plan(0, 1, 4), -1);
        CHECK.due("plan(0, 1, -1)", yard.plan(0, 1, -1), -1);
        CHECK.due("ACTS", yard.vehicle(0, 12), 10);

        FleetYard later = Check.yardOf("P..\n...\nS.S\n");
        later.run(7);
        later.task(1, 0);
        later.run(1);
        // To the right comes ahead of below; from 8 to 6 there is one shortest way; 6 to 0 goes up.
        tripIs(later, 0, 5, 0, 0, 0, 1, 2, 5, 8, 8, 7, 6, 6, 3, 0, 0);
        CHECK.due("first MOMENT", later.plan(0, 0, 0), 7);
        CHECK.due("last MOMENT", later.plan(0, 0, 1), 17);
    }

    // Its own ends may be passed, but no others: with 2 as b the way to 4 is short, else it is long.
    private static void passingEndpoints() {
        FleetYard yard = Check.yardOf("P.S.S\n..#S.\n#....\n");
        yard.task(1, 0);
        yard.run(1);
        CHECK.due("b is passed on the way to a", yard.trip(0, 2), 2);
        tripIs(yard, 0, 0, 0, 1, 2, 3, 4, 4, 3, 2, 2, 1, 0);
        FleetYard other = Check.yardOf("P.S.S\n..#S.\n#....\n");
        other.task(1, 2);
        other.run(1);
        tripIs(other, 0, 0, 0, 1, 6, 11, 12, 13, 8, 3, 4, 4);
    }

    private static void waitingForAnother() {
        FleetYard yard = Check.yardOf(CROSSING);
        yard.task(0, 1);
        yard.task(1, 0);
        yard.run(1);
        tripIs(yard, 0, 0, 0, 1, 2, 2, 5, 5, 2, 1, 0);
        // Its load is where the other goes: it waits as early as it can, at home.
        tripIs(yard, 1, 0, 3, 3, 3, 3, 3, 3, 4, 5, 5, 2, 2, 5, 4, 3);
        int[] cells = {4, 5, -1, 2, -1, 5, 4, 3};
        int[] moments = {6, 7, 8, 9, 10, 11, 12, 13};
        for (int i = 0; i < cells.length; i++) {
            actIs(yard, 1, i + 1, cells[i], moments[i]);
        }
        CHECK.due("first MOMENT", yard.plan(1, 0, 0), 0);
        CHECK.due("last MOMENT", yard.plan(1, 0, 1), 13);
        CHECK.due("waits are no ACTS", yard.vehicle(1, 12), 8);
    }

    private static void longest() {
        FleetYard yard = Check.yardOf(LONGEST);
        CHECK.due("cells", yard.count(0), 256);
        CHECK.due("task", yard.task(0, 1), 0);
        yard.run(1);
        CHECK.due("300 STEPS are a PLAN", yard.count(5), 1);
        CHECK.due("last MOMENT", yard.plan(0, 0, 1), 300);
        CHECK.due("ACTS", yard.vehicle(0, 12), 300);
        actIs(yard, 0, 300, 57, 300);
        CHECK.due("at home", yard.trip(0, 300), 57);
        CHECK.due("not yet", yard.trip(0, 299) != 57, true);
    }

    private static void tooLong() {
        FleetYard yard = Check.yardOf(TOO_LONG);
        CHECK.due("stations", yard.count(3), 3);
        yard.task(0, 2);
        yard.task(1, 2);
        CHECK.due("run", yard.run(50), 0);
        CHECK.due("302 STEPS are none, and the TASK behind it waits too", yard.count(5), 0);
        CHECK.due("IDLE", yard.vehicle(0, 7), 1);
        CHECK.due("told(0, 2)", yard.told(0, 2), -1);
        CHECK.due("no PLAN", yard.plan(0, 0, 0), -1);
        FleetYard second = Check.yardOf(TOO_LONG);
        second.task(1, 2);
        second.run(1);
        CHECK.due("the TASK behind it has a PLAN", second.count(5), 1);
    }

    // A second PARKING, near both STATIONS: VEHICLE 1 never has a PLAN, VEHICLE 0 has one when IDLE.
    private static void tooLongForOneOfTwo() {
        FleetYard yard = Check.yardOf(TOO_LONG.replace("#.#S#..", "#.#SP.."));
        CHECK.due("vehicles", yard.count(2), 2);
        yard.task(0, 2);
        yard.task(0, 2);
        yard.task(2, 0);
        yard.run(1);
        CHECK.due("VEHICLE 0 gets one, VEHICLE 1 none", yard.count(5), 1);
        int last = yard.plan(0, 0, 1);
        for (int i = 1; i < 2 * last; i++) {
            yard.run(1);
            CHECK.due("waits", yard.count(5), 1);
        }
        CHECK.due("FINISHED", yard.run(1), 1);
        CHECK.due("VEHICLE 0 gets the next one", yard.told(1, 2), 0);
        CHECK.due("at once", yard.told(1, 3), 2 * last);
        CHECK.due("the third waits", yard.told(2, 2), -1);
    }

    private static void tooLongIsForgottenWithTheMap() {
        FleetYard yard = Check.yardOf(TOO_LONG);
        yard.task(0, 2);
        yard.run(3);
        CHECK.due("not given", yard.count(5), 0);
        Check.write(yard, "P..S\n...S\n");
        yard.read();
        yard.task(0, 1);
        yard.run(1);
        CHECK.due("given", yard.count(5), 1);
    }

    private static void noneMeetsAnother() {
        FleetYard yard = Check.yardOf("#S#S#S#\nP.....P\nP.....P\nP.....P\n#S#S#S#\n");
        CHECK.due("vehicles", yard.count(2), 6);
        for (int i = 0; i < 12; i++) {
            yard.task(i % 6, (i * 5 + 3 + i / 6) % 6);
        }
        for (int i = 0; i < 40; i++) {
            yard.run(3);
            tripsAreClear(yard);
        }
        CHECK.due("given", yard.count(5) > 6, true);
    }

    private static void tripsAreClear(FleetYard yard) {
        for (int v = 0; v < 6; v++) {
            for (int u = 0; u < v; u++) {
                for (int t = yard.count(7); t < 150; t++) {
                    boolean meet = yard.trip(v, t) == yard.trip(u, t)
                            || yard.trip(v, t + 1) == yard.trip(u, t)
                            || yard.trip(v, t) == yard.trip(u, t + 1);
                    CHECK.due(v + " and " + u + " meet at " + t, meet, false);
                }
            }
        }
    }
}
