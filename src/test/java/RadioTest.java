/** Part III: what FATES do to messages, which GRANTS a VEHICLE takes, SILENT, what the BASE knows. */
public final class RadioTest {
    private static final Check CHECK = new Check("RadioTest");
    // The PLAN of TASK 0 1 has ten ACTS: an ACT is granted in an even TICK, done in the next one.
    private static final String MAP = "P..S\n...S\n";
    private static final String SIX = "PPPPPP\n......";
    private static final int LOST = 1;

    public static void main(String[] args) {
        grantOfEachFate();
        reportOfEachFate();
        comingsOnTheirWay();
        lostAndDoubledComesNever();
        fateAtTheRest();
        numbersOfBothWays();
        numbersGoOnWithOtherFates();
        fateIsOfTheSending();
        secondComingDoesNothing();
        oldGrantsDoNothing();
        nextPlanIsTaken();
        greatestReportByAct();
        greatestReportByPlan();
        silentCounts();
        haltsFromTenOn();
        haltingReports();
        idleGrantEndsSilence();
        silentOfEachVehicle();
        noGrantIsLeftOpen();
        CHECK.end();
    }

    private static Yard withTask() {
        Yard yard = Yard.of(MAP);
        yard.task(0, 1);
        return yard;
    }

    // Message 1 is the GRANT of TICK 0. Not done by TICK 4, it is sent again, as message 4 or 5.
    private static void grantOfEachFate() {
        CHECK.about("The lowest bit: it is LOST; the next two bits: DELAY 0 .. 3; the highest: it is DOUBLED");
        for (int f = 0; f <= 15; f++) {
            boolean lost = f % 2 == 1;
            int delay = f / 2 % 4;
            boolean doubled = f >= 8;
            Yard yard = withTask();
            yard.fates(64);
            yard.fate(1, f);
            yard.run(1);
            CHECK.due("FATE " + f + ": LOST", yard.count(9), lost ? 1 : 0);
            CHECK.due("FATE " + f + ": comings", yard.count(10), 1 + (lost ? 0 : doubled ? 2 : 1));
            int comes = lost ? 5 : 1 + delay;
            for (int tick = 1; tick < comes; tick++) {
                yard.run(1);
                CHECK.due("FATE " + f + ": nothing came in " + tick, yard.vehicle(0, 6), tick + 1);
                CHECK.due("FATE " + f + ": no PLAN in " + tick, yard.vehicle(0, 2), 0);
            }
            yard.run(1);
            CHECK.due("FATE " + f + ": it came in " + comes, yard.vehicle(0, 6), 0);
            CHECK.due("FATE " + f + ": the PLAN", yard.vehicle(0, 2), 1);
            CHECK.due("FATE " + f + ": the ACT", yard.vehicle(0, 3), 1);
            CHECK.due("FATE " + f + ": the CELL", yard.vehicle(0, 0), 1);
            boolean again = !lost && (doubled || delay == 3);
            yard.run(1);
            CHECK.due("FATE " + f + ": and in " + (comes + 1), yard.vehicle(0, 6), again ? 0 : 1);
            CHECK.due("FATE " + f + ": does nothing then", yard.vehicle(0, 3), 1);
        }
    }

    // Message 2 is the REPORT of the ACT done in TICK 1; the REPORTS of TICKS 2 and 4 are LOST.
    private static void reportOfEachFate() {
        CHECK.about("It comes at the beginning of the TICK that is DELAY and 1 behind the one it was sent in");
        for (int f = 0; f <= 14; f += 2) {
            int delay = f / 2 % 4;
            Yard yard = withTask();
            yard.row(0, 0, f, LOST, LOST, LOST, LOST, LOST);
            yard.run(2);
            for (int tick = 2; tick < 2 + delay; tick++) {
                yard.run(1);
                CHECK.due("FATE " + f + ": not known in " + tick, yard.vehicle(0, 9), 0);
                CHECK.due("FATE " + f + ": ACT 1 is granted", yard.vehicle(0, 13), 1);
            }
            yard.run(1);
            CHECK.due("FATE " + f + ": known PLAN", yard.vehicle(0, 8), 1);
            CHECK.due("FATE " + f + ": known ACT", yard.vehicle(0, 9), 1);
            CHECK.due("FATE " + f + ": ACT 2 is granted", yard.vehicle(0, 13), 2);
        }
        Yard lost = withTask();
        lost.row(0, 0, LOST, LOST, LOST, LOST, LOST, LOST);
        lost.run(7);
        CHECK.due("LOST: never known", lost.vehicle(0, 8), 0);
        CHECK.due("LOST: ACT 1 is granted", lost.vehicle(0, 13), 1);
    }

    private static void comingsOnTheirWay() {
        CHECK.about("Promise 15: comings on their way: DOUBLED ones are two, then one, then none");
        for (int delay = 0; delay <= 3; delay++) {
            Yard yard = new Yard();
            yard.fates(64);
            yard.fate(0, 8 + 2 * delay);
            yard.fate(1, LOST);
            yard.fate(2, LOST);
            for (int tick = 0; tick <= 5; tick++) {
                yard.run(1);
                int due = tick < 1 + delay ? 2 : tick == 1 + delay ? 1 : 0;
                CHECK.due("DELAY " + delay + ", behind TICK " + tick, yard.count(10), due);
            }
            CHECK.due("LOST", yard.count(9), 2);
        }
        Yard most = Yard.of(SIX);
        most.fate(0, 14);
        most.run(5);
        CHECK.due("of TICKS 0 (second comings), 2 and 4", most.count(10), 6 + 12 + 12);
        most.run(1);
        CHECK.due("of TICKS 2 and 4", most.count(10), 12 + 12);
        most.run(50);
        CHECK.due("sent by TICK 55", most.count(8), 6 * 28);
        CHECK.due("of TICKS 52 and 54", most.count(10), 12 + 12);
    }

    private static void lostAndDoubledComesNever() {
        CHECK.about("LOST and DOUBLED: what does not come does not come again");
        int[] fates = {9, 11, 13, 15};
        for (int f : fates) {
            Yard yard = withTask();
            yard.fate(0, f);
            yard.run(1);
            CHECK.due("FATE " + f + ": comings", yard.count(10), 0);
            CHECK.due("FATE " + f + ": LOST once each", yard.count(9), 2);
            yard.run(8);
            CHECK.due("FATE " + f + ": nothing came", yard.vehicle(0, 6), 9);
            CHECK.due("FATE " + f + ": nothing is known", yard.vehicle(0, 8), 0);
        }
    }

    // Six VEHICLES send six messages in each even TICK: 63 is one of TICK 20, 127 one of TICK 42.
    private static void fateAtTheRest() {
        CHECK.about("Message m has the FATE at the rest of m by how many there are");
        Yard most = Yard.of(SIX);
        most.fates(64);
        most.fate(63, LOST);
        most.run(20);
        CHECK.due("0 .. 59", most.count(9), 0);
        most.run(1);
        CHECK.due("60 .. 65", most.count(9), 1);
        most.run(21);
        CHECK.due("66 .. 125", most.count(9), 1);
        most.run(1);
        CHECK.due("126 .. 131", most.count(9), 2);
        Yard three = new Yard();
        three.row(0, LOST, 0);
        int[] lost = {0, 1, 1, 1, 2, 2, 2, 3, 3};
        for (int m = 0; m < lost.length; m++) {
            three.run(2);
            CHECK.due("of three, LOST by message " + m, three.count(9), lost[m]);
        }
        Yard one = new Yard();
        one.row(LOST);
        one.run(12);
        CHECK.due("of one, all are LOST", one.count(9), 6);
    }

    private static void numbersOfBothWays() {
        CHECK.about("Each message that is sent has a number, from 0 on (both ways together)");
        // 0 REPORT, 1 GRANT, 2 REPORT (TICK 1), 3 REPORT, 4 GRANT (TICK 2), 5 REPORT (TICK 3) ..
        int[] sent = {2, 3, 5, 6, 8, 9, 11, 12};
        Yard yard = withTask();
        for (int tick = 0; tick < sent.length; tick++) {
            yard.run(1);
            CHECK.due("sent by TICK " + tick, yard.count(8), sent[tick]);
        }
        Yard second = withTask();
        second.fates(64);
        second.fate(4, LOST);
        second.run(4);
        CHECK.due("message 4 is the GRANT of ACT 2", second.vehicle(0, 3), 1);
        CHECK.due("it was granted", second.vehicle(0, 13), 2);
        CHECK.due("LOST", second.count(9), 1);
        second.run(2);
        CHECK.due("not yet again in TICK 5", second.vehicle(0, 3), 1);
        second.run(2);
        CHECK.due("sent again in TICK 6, done in 7", second.vehicle(0, 3), 2);
        Yard two = Yard.of("P.S\nP.S\n");
        two.fates(64);
        two.fate(1, LOST);
        two.fate(2, LOST);
        two.task(0, 1);
        two.run(2);
        CHECK.due("REPORTS of 0 and 1 come first, then the GRANT", two.vehicle(0, 2), 0);
        CHECK.due("all three were sent in TICK 0", two.count(8), 3);
    }

    private static void numbersGoOnWithOtherFates() {
        CHECK.about("Message m has the FATE at the rest of m: the numbers go on when FATES become others");
        Yard yard = new Yard();
        yard.run(4);
        CHECK.due("messages 0 and 1", yard.count(8), 2);
        yard.fates(3);
        yard.fate(2, LOST);
        yard.run(1);
        CHECK.due("message 2 is LOST", yard.count(9), 1);
        yard.run(5);
        CHECK.due("3 and 4 are not", yard.count(9), 1);
        yard.run(1);
        CHECK.due("5 is", yard.count(9), 2);
    }

    private static void fateIsOfTheSending() {
        CHECK.about("A message has its FATE as it is sent");
        Yard yard = withTask();
        yard.fate(0, 6);
        yard.run(1);
        yard.fate(0, LOST);
        CHECK.due("still on their way", yard.count(10), 2);
        CHECK.due("none is LOST", yard.count(9), 0);
        yard.run(4);
        CHECK.due("what was sent ahead of it comes", yard.vehicle(0, 2), 1);
        Yard lost = withTask();
        lost.fate(0, LOST);
        lost.run(1);
        lost.fates(1);
        lost.run(3);
        CHECK.due("what was LOST does not come", lost.vehicle(0, 2), 0);
    }

    private static void secondComingDoesNothing() {
        CHECK.about("It takes a GRANT of its PLAN and the ACT behind the one done last; others do nothing");
        Yard yard = withTask();
        yard.fate(0, 8);
        int[] acts = {0, 1, 1, 2, 2, 3, 3, 4, 4, 5};
        int[] cells = {0, 1, 1, 2, 2, 3, 3, 3, 3, 7};
        for (int tick = 0; tick < acts.length; tick++) {
            yard.run(1);
            CHECK.due("ACT behind TICK " + tick, yard.vehicle(0, 3), acts[tick]);
            CHECK.due("CELL behind TICK " + tick, yard.vehicle(0, 0), cells[tick]);
            CHECK.due("ACTS done behind TICK " + tick, yard.count(11), acts[tick]);
            CHECK.due("SILENT behind TICK " + tick, yard.vehicle(0, 6), tick == 0 ? 1 : 0);
        }
    }

    // The GRANT of ACT 10 is sent again in TICK 22 and comes in 26, when PLAN 2 is under way.
    private static void oldGrantsDoNothing() {
        CHECK.about("It takes a GRANT of its PLAN: one of an older PLAN does nothing");
        Yard yard = withTask();
        yard.task(1, 0);
        yard.fates(64);
        // TICK 19: REPORT 29 of ACT 10 and those of TICKS 20 and 22 are LOST or late, GRANT 32 too.
        yard.fate(29, 6);
        yard.fate(30, LOST);
        yard.fate(31, LOST);
        yard.fate(32, 14);
        yard.run(22);
        CHECK.due("ACT 10 is done", yard.vehicle(0, 3), 10);
        CHECK.due("but not known", yard.vehicle(0, 9), 9);
        CHECK.due("sent so far", yard.count(8), 31);
        yard.run(1);
        CHECK.due("REPORT 31 and the GRANT again", yard.count(8), 33);
        CHECK.due("PLAN 1 is FINISHED in TICK 23", yard.run(1), 1);
        CHECK.due("PLAN 2 is given", yard.vehicle(0, 10), 2);
        yard.run(1);
        CHECK.due("its ACT 1 is done in TICK 24", yard.vehicle(0, 3), 1);
        yard.run(1);
        CHECK.due("nothing came in TICK 25", yard.vehicle(0, 6), 1);
        yard.run(1);
        CHECK.due("two GRANTS came in TICK 26", yard.vehicle(0, 6), 0);
        CHECK.due("of PLAN 2", yard.vehicle(0, 2), 2);
        CHECK.due("ACT 2 is done", yard.vehicle(0, 3), 2);
        CHECK.due("the second coming in TICK 27", yard.run(1), 0);
        CHECK.due("makes an end of SILENT", yard.vehicle(0, 6), 0);
        CHECK.due("and does nothing", yard.vehicle(0, 3), 2);
        CHECK.due("ACTS done in all", yard.count(11), 12);
    }

    private static void nextPlanIsTaken() {
        CHECK.about("Or of its next PLAN and ACT 1 (then that is its PLAN)");
        Yard yard = withTask();
        yard.task(1, 0);
        yard.run(21);
        CHECK.due("PLAN 2 is given in TICK 20", yard.vehicle(0, 10), 2);
        CHECK.due("the VEHICLE has PLAN 1", yard.vehicle(0, 2), 1);
        CHECK.due("and did its ACT 10", yard.vehicle(0, 3), 10);
        yard.run(1);
        CHECK.due("then PLAN 2", yard.vehicle(0, 2), 2);
        CHECK.due("and its ACT 1", yard.vehicle(0, 3), 1);
    }

    // REPORT 3 (TICK 2, of ACT 1) comes in TICK 5 by itself; that of TICK 4 is LOST.
    private static void greatestReportByAct() {
        CHECK.about("THE BASE knows the greatest REPORT that came (by PLAN, then ACT): not the latest");
        Yard yard = withTask();
        yard.fates(64);
        yard.fate(3, 4);
        yard.fate(6, LOST);
        yard.run(5);
        CHECK.due("ACT 2 is known in TICK 4", yard.vehicle(0, 9), 2);
        yard.run(1);
        CHECK.due("and in TICK 5", yard.vehicle(0, 9), 2);
        CHECK.due("of PLAN 1", yard.vehicle(0, 8), 1);
        Yard first = withTask();
        first.fates(64);
        first.fate(0, 4);
        first.fate(3, LOST);
        first.run(3);
        CHECK.due("ACT 1 is known in TICK 2", first.vehicle(0, 9), 1);
        first.run(1);
        CHECK.due("REPORT 0, 0 comes in TICK 3: PLAN", first.vehicle(0, 8), 1);
        CHECK.due("REPORT 0, 0 comes in TICK 3: ACT", first.vehicle(0, 9), 1);
    }

    // REPORT 30 (TICK 20, of PLAN 1, ACT 10) comes in TICK 23 by itself; that of TICK 22 is LOST.
    private static void greatestReportByPlan() {
        CHECK.about("THE BASE knows the greatest REPORT (by PLAN, then ACT): the PLAN weighs more");
        Yard yard = withTask();
        yard.task(1, 0);
        yard.fates(64);
        yard.fate(30, 4);
        yard.fate(33, LOST);
        yard.run(22);
        CHECK.due("PLAN 1 in TICK 21", yard.vehicle(0, 8), 1);
        CHECK.due("ACT 10 in TICK 21", yard.vehicle(0, 9), 10);
        yard.run(1);
        CHECK.due("PLAN 2 in TICK 22", yard.vehicle(0, 8), 2);
        CHECK.due("ACT 1 in TICK 22", yard.vehicle(0, 9), 1);
        yard.run(1);
        CHECK.due("PLAN 2 in TICK 23", yard.vehicle(0, 8), 2);
        CHECK.due("ACT 1 in TICK 23", yard.vehicle(0, 9), 1);
        CHECK.due("LOST", yard.count(9), 1);
    }

    private static void silentCounts() {
        CHECK.about("SILENT is how many TICKS in a row nothing came to it");
        Yard yard = withTask();
        CHECK.due("at first", yard.vehicle(0, 6), 0);
        for (int tick = 0; tick <= 20; tick++) {
            yard.run(1);
            CHECK.due("SILENT behind TICK " + tick, yard.vehicle(0, 6), tick % 2 == 0 ? 1 : 0);
        }
        for (int tick = 21; tick <= 40; tick++) {
            yard.run(1);
            CHECK.due("SILENT behind TICK " + tick, yard.vehicle(0, 6), tick - 19);
        }
    }

    private static void haltsFromTenOn() {
        CHECK.about("SILENT: from 10 on it HALTS");
        Yard yard = Yard.of(MAP);
        CHECK.due("at first", yard.vehicle(0, 5), 0);
        for (int n = 1; n <= 12; n++) {
            yard.run(1);
            CHECK.due("SILENT", yard.vehicle(0, 6), n);
            CHECK.due("HALTS by " + n, yard.vehicle(0, 5), n >= 10 ? 1 : 0);
        }
        yard.task(0, 1);
        yard.run(1);
        CHECK.due("HALTS until a GRANT comes", yard.vehicle(0, 5), 1);
        yard.run(1);
        CHECK.due("then not", yard.vehicle(0, 5), 0);
        CHECK.due("SILENT", yard.vehicle(0, 6), 0);
        CHECK.due("and does the ACT", yard.vehicle(0, 0), 1);
        CHECK.due("ACTS done", yard.count(11), 1);
    }

    private static void haltingReports() {
        CHECK.about("HALTS: it does no ACT, but sends its REPORTS of even TICKS");
        Yard yard = Yard.of(MAP);
        yard.run(10);
        CHECK.due("of TICKS 0 .. 8", yard.count(8), 5);
        yard.run(1);
        CHECK.due("HALTS", yard.vehicle(0, 5), 1);
        CHECK.due("of TICK 10", yard.count(8), 6);
        yard.run(10);
        CHECK.due("of TICKS 12 .. 20", yard.count(8), 11);
        CHECK.due("ACTS done", yard.count(11), 0);
    }

    // No REPORT comes, so that the GRANT of ACT 1 is sent in each 4th TICK: as 5, 8, 11, 14 ..
    private static void idleGrantEndsSilence() {
        CHECK.about("SILENT: nothing came; a GRANT that does nothing came too");
        Yard yard = withTask();
        yard.fates(64);
        for (int m = 2; m < 64; m++) {
            if (m % 3 != 2 || m == 2) {
                yard.fate(m, LOST);
            }
        }
        int[] silent = {1, 0, 1, 2, 3, 0, 1, 2, 3, 0, 1, 2, 3, 0};
        for (int tick = 0; tick < silent.length; tick++) {
            yard.run(1);
            CHECK.due("SILENT behind TICK " + tick, yard.vehicle(0, 6), silent[tick]);
            CHECK.due("ACT behind TICK " + tick, yard.vehicle(0, 3), tick == 0 ? 0 : 1);
        }
        CHECK.due("ACTS done", yard.count(11), 1);
        Yard halting = withTask();
        halting.fates(64);
        for (int m = 2; m < 64; m++) {
            if (m < 11 || m % 3 != 2) {
                halting.fate(m, LOST);
            }
        }
        halting.run(11);
        CHECK.due("SILENT behind TICK 10", halting.vehicle(0, 6), 9);
        CHECK.due("HALTS", halting.vehicle(0, 5), 0);
        halting.run(2);
        CHECK.due("SILENT behind TICK 12", halting.vehicle(0, 6), 11);
        CHECK.due("HALTS", halting.vehicle(0, 5), 1);
        halting.run(1);
        CHECK.due("SILENT behind TICK 13", halting.vehicle(0, 6), 0);
        CHECK.due("HALTS", halting.vehicle(0, 5), 0);
    }

    private static void silentOfEachVehicle() {
        CHECK.about("SILENT: nothing came to it, whatever came to others or to the BASE");
        Yard yard = Yard.of("P.S\nP.S\n");
        yard.task(0, 1);
        for (int tick = 0; tick <= 10; tick++) {
            yard.run(1);
            CHECK.due("of 0 behind TICK " + tick, yard.vehicle(0, 6), tick % 2 == 0 ? 1 : 0);
            CHECK.due("of 1 behind TICK " + tick, yard.vehicle(1, 6), tick + 1);
            CHECK.due("0 HALTS", yard.vehicle(0, 5), 0);
            CHECK.due("1 HALTS", yard.vehicle(1, 5), tick >= 9 ? 1 : 0);
        }
    }

    private static void noGrantIsLeftOpen() {
        CHECK.about("Promise 11: what 4, whether it has a GRANT that is not done: it is done as it comes");
        Yard yard = withTask();
        yard.row(8, 14, 0, 10, 8, 12, 2);
        for (int tick = 0; tick < 60; tick++) {
            yard.run(1);
            CHECK.due("behind TICK " + tick, yard.vehicle(0, 4), 0);
        }
        CHECK.due("FINISHED", yard.count(6), 1);
    }
}
