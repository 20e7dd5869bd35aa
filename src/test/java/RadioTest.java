/** Promises 6 and 7 and part III: what FATES do to messages, and what a silent vehicle does. */
public final class RadioTest {
    private static final Check CHECK = new Check("RadioTest");
    private static final String MAP = "P..S\n...S\n";

    public static void main(String[] args) {
        fatesTaken();
        fateTaken();
        delayed();
        doubled();
        lost();
        lostAndDoubled();
        fateByNumber();
        fateIsOfTheSending();
        grantedAgain();
        silentHalts();
        reportsOfEvenTicks();
        oldGrantsDoNothing();
        CHECK.end();
    }

    private static void fatesTaken() {
        FleetYard yard = new FleetYard();
        int[] wrong = {0, -1, 65, Integer.MIN_VALUE, Integer.MAX_VALUE};
        for (int n : wrong) {
            CHECK.due("fates(" + n + ")", yard.fates(n), false);
            CHECK.due("still one FATE", yard.fate(0, 0) && !yard.fate(1, 0), true);
        }
        for (int n = 1; n <= 64; n++) {
            CHECK.due("fates(" + n + ")", yard.fates(n), true);
            CHECK.due("the last of " + n, yard.fate(n - 1, 3), true);
            CHECK.due("none behind " + n, yard.fate(n, 3), false);
        }
        yard.fates(1);
        yard.fate(0, 1);
        CHECK.due("fates(1) again", yard.fates(1), true);
        yard.run(2);
        CHECK.due("FATES are 0 again: nothing LOST", yard.count(9), 0);
    }

    private static void fateTaken() {
        FleetYard yard = new FleetYard();
        yard.fates(3);
        for (int f = 0; f <= 15; f++) {
            CHECK.due("fate(2, " + f + ")", yard.fate(2, f), true);
        }
        int[] wrong = {-1, 16, Integer.MIN_VALUE, Integer.MAX_VALUE};
        for (int f : wrong) {
            CHECK.due("fate(0, " + f + ")", yard.fate(0, f), false);
        }
        int[] none = {-1, 3, 64, Integer.MIN_VALUE, Integer.MAX_VALUE};
        for (int i : none) {
            CHECK.due("fate(" + i + ", 0)", yard.fate(i, 0), false);
        }
    }

    private static FleetYard withTask(int fate) {
        FleetYard yard = Check.yardOf(MAP);
        yard.fate(0, fate);
        yard.task(0, 1);
        return yard;
    }

    // The first GRANT is sent in TICK 0 and comes DELAY and 1 behind it.
    private static void delayed() {
        for (int delay = 0; delay <= 3; delay++) {
            FleetYard yard = withTask(2 * delay);
            yard.run(delay + 1);
            CHECK.due("delay " + delay + ": no PLAN yet", yard.vehicle(0, 2), 0);
            yard.run(1);
            CHECK.due("delay " + delay + ": the PLAN", yard.vehicle(0, 2), 1);
            CHECK.due("delay " + delay + ": its first ACT", yard.vehicle(0, 3), 1);
            CHECK.due("delay " + delay + ": SILENT", yard.vehicle(0, 6), 0);
            yard.run(delay + 1);
            int known = yard.vehicle(0, 9);
            CHECK.due("delay " + delay + ": the BASE knows", known, 1);
        }
        FleetYard yard = withTask(6);
        yard.run(2);
        CHECK.due("on their way: a REPORT and a GRANT", yard.count(10), 2);
        yard.run(2);
        CHECK.due("on their way: and a REPORT", yard.count(10), 3);
        yard.run(1);
        CHECK.due("two came, a REPORT and the GRANT again are new", yard.count(10), 3);
    }

    private static void doubled() {
        FleetYard yard = withTask(8);
        yard.run(1);
        CHECK.due("two messages", yard.count(8), 2);
        CHECK.due("four comings", yard.count(10), 4);
        yard.run(1);
        CHECK.due("two came, two of a REPORT are new", yard.count(10), 4);
        CHECK.due("SILENT", yard.vehicle(0, 6), 0);
        yard.run(1);
        CHECK.due("the second coming: not SILENT", yard.vehicle(0, 6), 0);
        CHECK.due("the second coming does nothing", yard.vehicle(0, 3), 1);
        CHECK.due("none LOST", yard.count(9), 0);
    }

    private static void lost() {
        int[] fates = {1, 3, 5, 7};
        for (int fate : fates) {
            FleetYard yard = withTask(fate);
            yard.run(9);
            CHECK.due("LOST by " + fate, yard.count(9), yard.count(8));
            CHECK.due("sent: five REPORTS, three GRANTS", yard.count(8), 8);
            CHECK.due("on their way", yard.count(10), 0);
            CHECK.due("the vehicle has no PLAN", yard.vehicle(0, 2), 0);
            CHECK.due("and is in its PARKING", yard.vehicle(0, 0), 0);
            CHECK.due("the BASE gave one", yard.vehicle(0, 10), 1);
        }
    }

    private static void lostAndDoubled() {
        FleetYard yard = withTask(9);
        yard.run(1);
        CHECK.due("nothing of a LOST one is on its way", yard.count(10), 0);
        CHECK.due("it is LOST once", yard.count(9), 2);
        yard.run(6);
        CHECK.due("it never comes", yard.vehicle(0, 6), 7);
    }

    private static void fateByNumber() {
        FleetYard yard = Check.yardOf(MAP);
        yard.fates(3);
        yard.fate(1, 1);
        yard.run(20);
        CHECK.due("REPORTS 0 .. 9", yard.count(8), 10);
        CHECK.due("of them 1, 4, 7 are LOST", yard.count(9), 3);
    }

    private static void fateIsOfTheSending() {
        FleetYard yard = withTask(6);
        yard.run(1);
        yard.fate(0, 1);
        CHECK.due("still on their way", yard.count(10), 2);
        yard.run(4);
        CHECK.due("what was sent ahead of it comes", yard.vehicle(0, 2), 1);
    }

    private static void grantedAgain() {
        FleetYard yard = Check.yardOf(MAP);
        yard.fates(64);
        yard.fate(1, 1);
        yard.task(0, 1);
        yard.run(4);
        CHECK.due("REPORTS of 0, 2 and a GRANT", yard.count(8), 3);
        yard.run(1);
        CHECK.due("a REPORT and the GRANT again", yard.count(8), 5);
        CHECK.due("the ACT granted is the same", yard.vehicle(0, 13), 1);
        CHECK.due("it has not come", yard.vehicle(0, 2), 0);
        yard.run(1);
        CHECK.due("it came", yard.vehicle(0, 2), 1);
        CHECK.due("it is done", yard.vehicle(0, 0), 1);
        CHECK.due("no GRANT is open", yard.vehicle(0, 4), 0);
    }

    private static void silentHalts() {
        FleetYard yard = Check.yardOf(MAP);
        for (int n = 1; n <= 9; n++) {
            yard.run(1);
            CHECK.due("SILENT " + n, yard.vehicle(0, 6), n);
            CHECK.due("does not HALT by " + n, yard.vehicle(0, 5), 0);
        }
        yard.run(1);
        CHECK.due("SILENT 10", yard.vehicle(0, 6), 10);
        CHECK.due("HALTS", yard.vehicle(0, 5), 1);
        yard.run(1);
        CHECK.due("HALTS on", yard.vehicle(0, 5), 1);
        CHECK.due("sends REPORTS all the same", yard.count(8), 6);
        yard.task(0, 1);
        yard.run(2);
        CHECK.due("a GRANT ends it", yard.vehicle(0, 5), 0);
        CHECK.due("and is done at once", yard.vehicle(0, 0), 1);
    }

    private static void reportsOfEvenTicks() {
        FleetYard yard = Check.yardOf("PP.\n...\n");
        int[] sent = {2, 2, 4, 4, 6};
        for (int tick = 0; tick < sent.length; tick++) {
            yard.run(1);
            CHECK.due("sent by TICK " + tick, yard.count(8), sent[tick]);
        }
    }

    // GRANTS are doubled and delayed unlike one another, so that old ones come behind new ones.
    private static void oldGrantsDoNothing() {
        FleetYard yard = Check.yardOf(MAP);
        yard.fates(7);
        int[] row = {8, 14, 0, 10, 8, 12, 2};
        for (int i = 0; i < row.length; i++) {
            yard.fate(i, row[i]);
        }
        yard.task(0, 1);
        yard.task(1, 0);
        int lastAct = 0;
        for (int i = 0; i < 120; i++) {
            yard.run(1);
            int act = 100 * yard.vehicle(0, 2) + yard.vehicle(0, 3);
            CHECK.due("acts never go back", act >= lastAct, true);
            lastAct = act;
        }
        CHECK.due("both TASKS are FINISHED", yard.count(6), 2);
        CHECK.due("by ten ACTS each", yard.count(11), 20);
    }
}
