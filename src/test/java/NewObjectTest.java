/** Promise 1, and that an object holds its promises up to its 512th call. */
public final class NewObjectTest {
    private static final Check CHECK = new Check("NewObjectTest");

    public static void main(String[] args) {
        counts();
        cells();
        oneVehicle();
        nothingCame();
        tapeIsEmpty();
        oneFateThatIsZero();
        ticksBeginAtZero();
        objectsAreApart();
        lastPromisedCall();
        CHECK.end();
    }

    private static void counts() {
        CHECK.about("Promise 1: the MAP is PS in one LINE, one VEHICLE: count");
        Yard yard = new Yard();
        int[] counts = {2, 2, 1, 1, 0, 0, 0, 0, 0, 0, 0, 0, 0};
        for (int what = 0; what < counts.length; what++) {
            CHECK.due("count(" + what + ")", yard.count(what), counts[what]);
        }
    }

    private static void cells() {
        CHECK.about("Promise 1: the MAP is PS in one LINE: cell");
        Yard yard = new Yard();
        int[][] due = {{3, 0, 0, -1, 1, -1, -1, 0, -1}, {2, 0, -1, -1, -1, -1, 0, 0, -1}};
        for (int c = 0; c < due.length; c++) {
            for (int what = 0; what <= 8; what++) {
                CHECK.due("cell(" + c + ", " + what + ")", yard.cell(c, what), due[c][what]);
            }
        }
        CHECK.due("cell(2, 0)", yard.cell(2, 0), -1);
    }

    private static void oneVehicle() {
        CHECK.about("Promise 1: one VEHICLE, which stands in PARKING 0, IDLE, without a PLAN");
        Yard yard = new Yard();
        int[] due = {0, 0, 0, 0, 0, 0, 0, 1, 0, 0, 0, -1, 0, 0};
        for (int what = 0; what < due.length; what++) {
            CHECK.due("vehicle(0, " + what + ")", yard.vehicle(0, what), due[what]);
            CHECK.due("vehicle(1, " + what + ")", yard.vehicle(1, what), -1);
        }
        for (int what = 0; what <= 3; what++) {
            CHECK.due("plan(0, 1, " + what + ")", yard.plan(0, 1, what), -1);
        }
        CHECK.due("trip(0, 0)", yard.trip(0, 0), 0);
        CHECK.due("trip(0, 600)", yard.trip(0, 600), 0);
        CHECK.due("trip(1, 0)", yard.trip(1, 0), -1);
    }

    private static void nothingCame() {
        CHECK.about("Promise 1: the one STATION has no second one for a TASK");
        Yard yard = new Yard();
        CHECK.due("task(0, 0)", yard.task(0, 0), -1);
        CHECK.due("task(0, 1)", yard.task(0, 1), -1);
        CHECK.due("task(1, 0)", yard.task(1, 0), -1);
        CHECK.due("count(4)", yard.count(4), 0);
        for (int what = 0; what <= 4; what++) {
            CHECK.due("told(0, " + what + ")", yard.told(0, what), -1);
        }
    }

    private static void tapeIsEmpty() {
        CHECK.about("Promise 1: the tape of a new object is empty, and no read() had a FAULT");
        Yard yard = new Yard();
        CHECK.due("place()", yard.place(), -1);
        CHECK.due("back(1)", yard.back(1), -1);
        CHECK.due("back(0)", yard.back(0), 0);
        CHECK.due("read()", yard.read(), 2);
        CHECK.due("place()", yard.place(), 0);
        CHECK.due("the MAP is still PS", yard.count(0), 2);
    }

    private static void oneFateThatIsZero() {
        CHECK.about("Part III: FATES are at first one 0");
        Yard yard = new Yard();
        CHECK.due("fate(1, 0)", yard.fate(1, 0), false);
        CHECK.due("run(1)", yard.run(1), 0);
        CHECK.due("a REPORT is sent", yard.count(8), 1);
        CHECK.due("not LOST", yard.count(9), 0);
        CHECK.due("comes once", yard.count(10), 1);
        CHECK.due("run(1)", yard.run(1), 0);
        CHECK.due("without DELAY", yard.count(10), 0);
        CHECK.due("fate(0, 15)", yard.fate(0, 15), true);
    }

    private static void ticksBeginAtZero() {
        CHECK.about("Part IV: the TICK's number is 0 at first");
        Yard yard = new Yard();
        CHECK.due("count(7)", yard.count(7), 0);
        CHECK.due("run(1)", yard.run(1), 0);
        CHECK.due("count(7)", yard.count(7), 1);
        CHECK.due("TICK 0 is even: a REPORT", yard.count(8), 1);
    }

    private static void objectsAreApart() {
        CHECK.about("Promise 1: a new object is as new, whatever others did");
        Yard before = new Yard();
        State.same(CHECK, "beside a used one", yard -> {
            Yard used = Yard.of("P..S\n...S\n");
            used.row(1, 2, 3);
            used.task(0, 1);
            used.run(20);
            used.write("P?");
            used.read();
            used.write("PSP");
        }, yard -> { }, yard -> yard.run(9));
        CHECK.due("one made ahead of it, count(0)", before.count(0), 2);
        CHECK.due("one made ahead of it, count(12)", before.count(12), 0);
    }

    // 29 TASKS of 20 TICKS each end in TICKS 20, 40 .. 580.
    private static void lastPromisedCall() {
        CHECK.about("An object is used for at most 512 calls: the last of these answers too");
        Yard yard = Yard.of("P..S\n...S\n");
        for (int i = 0; i < 60; i++) {
            CHECK.due("task " + i, yard.task(0, 1), i);
        }
        while (yard.callsLeft() > 14) {
            CHECK.due("count(7)", yard.count(7), 0);
        }
        CHECK.due("600 TICKS", yard.ticks(600), 29);
        CHECK.due("count(7)", yard.count(7), 600);
        CHECK.due("one is left", yard.callsLeft(), 1);
        CHECK.due("count(6)", yard.count(6), 29);
    }
}
