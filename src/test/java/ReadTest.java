import java.util.function.Consumer;

/** Promises 4 and 5: what read makes of the tape, and where its FAULT is. */
public final class ReadTest {
    private static final Check CHECK = new Check("ReadTest");
    private static final String MAP = "P..S\n...S\n";
    // A text for each FAULT 1 .. 5, with its place.
    private static final String[] FAULTY = {"P.?", "PS\n.", "P" + ".".repeat(16), "S.S", ".P#S"};
    private static final int[] PLACES = {2, 4, 16, 3, 1};

    public static void main(String[] args) {
        zeroOrTheFault();
        tapeIsEmptyThen();
        emptyTape();
        faultChangesNothing();
        emptyTapeChangesNothing();
        soundMapBeginsAnew();
        largerAndSmallerMaps();
        ticksBeginAnew();
        fatesBeginAnew();
        messagesAreForgotten();
        placeWithoutFault();
        placeOfTheLatestRead();
        placeStays();
        CHECK.end();
    }

    private static void zeroOrTheFault() {
        CHECK.about("Promise 4: 0, or the number of its FAULT");
        for (int i = 0; i < FAULTY.length; i++) {
            Yard yard = new Yard();
            yard.write(FAULTY[i]);
            CHECK.due("read() of " + FAULTY[i], yard.read(), i + 1);
            CHECK.due("place()", yard.place(), PLACES[i]);
        }
        Yard yard = new Yard();
        yard.write(MAP);
        CHECK.due("read()", yard.read(), 0);
        CHECK.due("CELLS", yard.count(0), 8);
    }

    private static void tapeIsEmptyThen() {
        CHECK.about("Promise 4: the tape, which is empty then");
        Yard yard = new Yard();
        yard.write(MAP);
        yard.read();
        CHECK.due("count(12) behind a MAP", yard.count(12), 0);
        CHECK.due("back(1)", yard.back(1), -1);
        for (String text : FAULTY) {
            yard.write(text);
            CHECK.due("count(12)", yard.count(12), text.length());
            CHECK.due("a FAULT", yard.read() > 0, true);
            CHECK.due("count(12) behind a FAULT", yard.count(12), 0);
            CHECK.due("back(1)", yard.back(1), -1);
        }
        CHECK.due("feed", yard.feed(0x50530A2E, 0x2E0A2E2E, 0x0A2E2E0A, 0x2E2E0A2E, 0x2E0A2E2E), 20);
        CHECK.due("read() of the new bytes alone", yard.read(), 0);
        CHECK.due("CELLS", yard.count(0), 14);
    }

    private static void emptyTape() {
        CHECK.about("Promise 4: an empty tape is a text whose first LINE is empty");
        Yard yard = Yard.of(MAP);
        CHECK.due("read()", yard.read(), 2);
        CHECK.due("place()", yard.place(), 0);
        CHECK.due("read() again", yard.read(), 2);
        CHECK.due("CELLS", yard.count(0), 8);
    }

    // Under way, with messages of all kinds on their way, and a TASK that waits.
    private static void busy(Yard yard) {
        yard.write(MAP);
        yard.read();
        getBusy(yard);
    }

    private static void getBusy(Yard yard) {
        yard.row(0, 8, 4, 14, 1);
        yard.task(1, 0);
        yard.task(0, 1);
        yard.run(9);
    }

    private static void goesOn(Yard yard) {
        yard.run(50);
        yard.run(7);
        yard.task(1, 0);
    }

    private static void faultChangesNothing() {
        CHECK.about("Part I: with a FAULT nothing changes");
        for (int i = 0; i < FAULTY.length; i++) {
            String text = FAULTY[i];
            int place = PLACES[i];
            State.same(CHECK, "the FAULT of " + text, yard -> {
                busy(yard);
                yard.write(text);
                CHECK.due("a FAULT", yard.read() > 0, true);
            }, yard -> busyBehindFault(yard, place), ReadTest::goesOn);
        }
    }

    // The same, but with a FAULT at that place ahead of it: place() is of the latest read().
    private static void busyBehindFault(Yard yard, int place) {
        yard.write(MAP);
        yard.read();
        yard.write(place < 16 ? ".".repeat(place) + "?" : ".".repeat(17));
        yard.read();
        getBusy(yard);
    }

    private static void emptyTapeChangesNothing() {
        CHECK.about("Part I: with a FAULT nothing changes: read() of an empty tape");
        State.same(CHECK, "an empty tape", yard -> {
            busy(yard);
            yard.read();
        }, yard -> busyBehindFault(yard, 0), ReadTest::goesOn);
    }

    private static void soundMapBeginsAnew() {
        CHECK.about("Part I: else the MAP is that of the text; all else is as at first");
        Consumer<Yard> later = yard -> {
            yard.task(0, 1);
            yard.task(1, 0);
            yard.run(23);
        };
        String[] texts = {MAP, "S.S.P\n.....\n", "P.S\nP.S\n", "PS", "P"};
        for (String text : texts) {
            State.same(CHECK, "behind a used " + text.replace('\n', '|'), yard -> {
                busy(yard);
                yard.write(text);
                CHECK.due("read()", yard.read(), 0);
            }, yard -> {
                yard.write(text);
                yard.read();
            }, later);
        }
        int[] ticks = {5, 17, 30, 41};
        for (int n : ticks) {
            State.same(CHECK, "behind two VEHICLES in TICK " + n, yard -> {
                yard.write("P.S\nP.S\n");
                yard.read();
                yard.row(8, 0);
                yard.task(0, 1);
                yard.task(1, 0);
                yard.task(0, 1);
                yard.run(n);
                yard.write("P.S\nP.S\n");
                yard.read();
            }, yard -> {
                yard.write("P.S\nP.S\n");
                yard.read();
            }, later);
        }
    }

    private static void largerAndSmallerMaps() {
        CHECK.about("Part I: nothing of a larger MAP is left in a smaller one");
        Yard yard = Yard.of("PPPPPPSSSSSSSSSS\n" + ".".repeat(16));
        CHECK.due("VEHICLES", yard.count(2), 6);
        yard.write("P.S");
        CHECK.due("read()", yard.read(), 0);
        int[] counts = {3, 3, 1, 1};
        for (int what = 0; what < counts.length; what++) {
            CHECK.due("count(" + what + ")", yard.count(what), counts[what]);
        }
        CHECK.due("cell(3, 0)", yard.cell(3, 0), -1);
        CHECK.due("cell(1, 5)", yard.cell(1, 5), -1);
        CHECK.due("vehicle(1, 0)", yard.vehicle(1, 0), -1);
        CHECK.due("task(0, 1)", yard.task(0, 1), -1);
        yard.run(1);
        CHECK.due("one VEHICLE sends", yard.count(8), 1);
    }

    private static void ticksBeginAnew() {
        CHECK.about("Part I: all else is as at first: the TICKS and the TASKS");
        Yard yard = Yard.of(MAP);
        for (int i = 0; i < 60; i++) {
            yard.task(0, 1);
        }
        yard.ticks(600);
        CHECK.due("no TICK is left", yard.run(1), -1);
        CHECK.due("no TASK is left", yard.task(0, 1), -1);
        CHECK.due("FINISHED", yard.count(6), 29);
        yard.write(MAP);
        CHECK.due("read()", yard.read(), 0);
        CHECK.due("came", yard.count(4), 0);
        CHECK.due("given", yard.count(5), 0);
        CHECK.due("FINISHED", yard.count(6), 0);
        CHECK.due("the TICK's number", yard.count(7), 0);
        CHECK.due("ACTS done", yard.count(11), 0);
        CHECK.due("told(0, 0)", yard.told(0, 0), -1);
        CHECK.due("task(1, 0)", yard.task(1, 0), 0);
        CHECK.due("run(50)", yard.run(50), 1);
        CHECK.due("told(0, 4)", yard.told(0, 4), 20);
    }

    private static void fatesBeginAnew() {
        CHECK.about("Part I: all else is as at first: FATES one 0");
        Yard yard = Yard.of(MAP);
        yard.row(1, 1, 1);
        yard.write(MAP);
        yard.read();
        CHECK.due("fate(1, 0)", yard.fate(1, 0), false);
        CHECK.due("run(4)", yard.run(4), 0);
        CHECK.due("none LOST", yard.count(9), 0);
        yard.fates(3);
        yard.run(10);
        CHECK.due("nor of those that were behind it", yard.count(9), 0);
    }

    private static void messagesAreForgotten() {
        CHECK.about("Part I: all else is as at first: no message is on its way, the next one is number 0");
        Yard yard = Yard.of(MAP);
        yard.row(14);
        yard.task(0, 1);
        yard.run(1);
        CHECK.due("two messages, four comings", yard.count(10), 4);
        yard.write(MAP);
        yard.read();
        CHECK.due("count(10)", yard.count(10), 0);
        CHECK.due("count(8)", yard.count(8), 0);
        yard.row(0, 1);
        yard.run(5);
        CHECK.due("nothing came to the VEHICLE", yard.vehicle(0, 6), 5);
        CHECK.due("it has no PLAN", yard.vehicle(0, 2), 0);
        CHECK.due("REPORTS 0, 1, 2", yard.count(8), 3);
        CHECK.due("of which 1 is LOST", yard.count(9), 1);
    }

    private static void placeWithoutFault() {
        CHECK.about("Promise 5: NONE without");
        Yard yard = new Yard();
        CHECK.due("place() ahead of a read()", yard.place(), -1);
        yard.write(MAP);
        CHECK.due("place() with a tape", yard.place(), -1);
        yard.read();
        CHECK.due("place() of a MAP", yard.place(), -1);
        yard.write("P?");
        yard.read();
        CHECK.due("place() of a FAULT", yard.place(), 1);
        yard.write(MAP);
        yard.read();
        CHECK.due("place() of a MAP behind it", yard.place(), -1);
    }

    private static void placeOfTheLatestRead() {
        CHECK.about("Promise 5: the place of the latest read()'s FAULT");
        Yard yard = new Yard();
        for (int i = 0; i < FAULTY.length; i++) {
            yard.write(FAULTY[i]);
            yard.read();
            CHECK.due("place() of " + FAULTY[i], yard.place(), PLACES[i]);
        }
        yard.read();
        CHECK.due("place() of the empty tape", yard.place(), 0);
    }

    private static void placeStays() {
        CHECK.about("Promise 5: of the latest read(), whatever else is called");
        Yard yard = Yard.of(MAP);
        yard.write("P.?");
        yard.read();
        CHECK.due("place()", yard.place(), 2);
        CHECK.due("place() again", yard.place(), 2);
        yard.write("P?");
        CHECK.due("place() with a tape", yard.place(), 2);
        yard.back(1);
        yard.fates(2);
        yard.task(0, 1);
        yard.run(3);
        CHECK.due("place() behind other calls", yard.place(), 2);
    }
}
