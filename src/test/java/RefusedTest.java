import java.util.function.Consumer;
import java.util.function.ToIntFunction;

/**
 * A call that is refused, and a question, changes nothing. Two yards do the same, but only one of
 * them is asked for what is refused; then both must answer alike, at once and when they go on.
 */
public final class RefusedTest {
    private static final Check CHECK = new Check("RefusedTest");
    private static final int LEAST = Integer.MIN_VALUE;
    private static final int GREATEST = Integer.MAX_VALUE;

    public static void main(String[] args) {
        feed();
        back();
        fates();
        fate();
        task();
        tooManyTasks();
        run();
        tooManyTicks();
        questions();
        wrongQuestions();
        CHECK.end();
    }

    // Under way, with messages LOST, late and DOUBLED, a TASK that waits, a FAULT and a tape.
    private static void busy(Yard yard) {
        yard.write("P..S\n...S\n");
        yard.read();
        yard.write("P?");
        yard.read();
        yard.row(0, 8, 4, 14, 1);
        yard.task(1, 0);
        yard.task(0, 1);
        yard.run(9);
        yard.write("PS");
    }

    private static void goesOn(Yard yard) {
        yard.run(37);
        yard.task(1, 0);
        yard.run(2);
    }

    private static void readsOn(Yard yard) {
        yard.read();
        yard.run(3);
        yard.back(0);
    }

    private static int said(boolean answer) {
        return answer ? 1 : 0;
    }

    private static void nothingHappens(String call, Consumer<Yard> before, ToIntFunction<Yard> refused,
            int answer, Consumer<Yard> later) {
        State.same(CHECK, call, yard -> {
            before.accept(yard);
            CHECK.due(call, refused.applyAsInt(yard), answer);
        }, before, later);
    }

    private static void refused(String call, ToIntFunction<Yard> refused, int answer) {
        nothingHappens(call, RefusedTest::busy, refused, answer, RefusedTest::goesOn);
        nothingHappens(call, RefusedTest::busy, refused, answer, RefusedTest::readsOn);
    }

    private static void feed() {
        CHECK.about("Promise 2: NONE, and nothing comes");
        int[] full = {381, 400};
        for (int there : full) {
            nothingHappens("feed", yard -> {
                busy(yard);
                yard.back(2);
                yard.write("PS" + ".".repeat(there - 2));
            }, yard -> yard.feed(1, 2, 3, 4, 5), -1, yard -> {
                yard.back(there - 2);
                yard.read();
                yard.run(1);
            });
        }
    }

    private static void back() {
        CHECK.about("Promise 3: NONE, and nothing goes");
        int[] wrong = {3, 400, GREATEST, -1, LEAST};
        for (int n : wrong) {
            refused("back(" + n + ")", yard -> yard.back(n), -1);
        }
    }

    private static void fates() {
        CHECK.about("Promise 6: false for another n");
        int[] wrong = {0, 65, -1, LEAST, GREATEST};
        for (int n : wrong) {
            refused("fates(" + n + ")", yard -> said(yard.fates(n)), 0);
        }
    }

    private static void fate() {
        CHECK.about("Promise 7: false, if there is none such, or f is not 0 .. 15");
        int[][] wrong = {{-1, 1}, {5, 1}, {64, 1}, {LEAST, 0}, {GREATEST, 0}, {0, -1}, {0, 16}, {4, 16},
            {0, LEAST}, {0, GREATEST}, {5, 16}};
        for (int[] pair : wrong) {
            refused("fate(" + pair[0] + ", " + pair[1] + ")", yard -> said(yard.fate(pair[0], pair[1])), 0);
        }
    }

    private static void task() {
        CHECK.about("Promise 8: NONE, and nothing happens: no such ones, or alike");
        int[][] wrong = {{0, 0}, {1, 1}, {-1, 0}, {0, -1}, {2, 0}, {0, 2}, {2, 2}, {LEAST, 0}, {1, GREATEST}};
        for (int[] pair : wrong) {
            refused("task(" + pair[0] + ", " + pair[1] + ")", yard -> yard.task(pair[0], pair[1]), -1);
        }
    }

    // With 60 TASKS a yard has too many answers for State: those of them are held here.
    private static void tooManyTasks() {
        CHECK.about("Promise 8: NONE, and nothing happens: 60 came");
        Yard refused = new Yard();
        Yard due = new Yard();
        Yard[] both = {refused, due};
        for (Yard yard : both) {
            yard.write("P..S\n...S\n");
            yard.read();
            for (int i = 0; i < 60; i++) {
                yard.task(i % 2, 1 - i % 2);
            }
            yard.run(9);
        }
        CHECK.due("task(1, 0)", refused.task(1, 0), -1);
        CHECK.due("task(0, 1)", refused.task(0, 1), -1);
        for (int task = 0; task <= 61; task++) {
            for (int what = 0; what <= 4; what++) {
                CHECK.due("told(" + task + ", " + what + ")", refused.told(task, what), due.told(task, what));
            }
        }
        for (int i = 0; i < 3; i++) {
            for (int what = 0; what <= 12; what++) {
                CHECK.due("count(" + what + ")", refused.count(what), due.count(what));
            }
            CHECK.due("run(40)", refused.run(40), due.run(40));
        }
    }

    private static void run() {
        CHECK.about("Promise 9: NONE, and nothing happens, for another n");
        int[] wrong = {0, 51, -1, 600, LEAST, GREATEST};
        for (int n : wrong) {
            refused("run(" + n + ")", yard -> yard.run(n), -1);
        }
    }

    private static void tooManyTicks() {
        CHECK.about("Promise 9: NONE, and nothing happens, if more than 600 would be done in all");
        int[] lefts = {0, 1, 7, 30, 48, 49};
        for (int left : lefts) {
            nothingHappens("run with " + left + " left", yard -> {
                busy(yard);
                yard.ticks(600 - left - 9 - 5);
                yard.task(0, 1);
                yard.run(5);
            }, yard -> yard.run(left + 1), -1, yard -> {
                yard.run(left);
                yard.run(1);
            });
        }
    }

    private static void questions() {
        CHECK.about("Promises 5 and 10 to 15: a question changes nothing");
        State.same(CHECK, "all questions", yard -> {
            busy(yard);
            State.of(yard);
        }, RefusedTest::busy, yard -> yard.run(2));
    }

    private static void wrongQuestions() {
        CHECK.about("Promises 10 to 15: NONE for others, and nothing changes");
        int[] odd = {-1, 99, LEAST, GREATEST};
        State.same(CHECK, "wrong questions", yard -> {
            busy(yard);
            for (int i : odd) {
                CHECK.due("cell", yard.cell(i, 0), -1);
                CHECK.due("cell", yard.cell(0, i), -1);
                CHECK.due("vehicle", yard.vehicle(i, 0), -1);
                CHECK.due("vehicle", yard.vehicle(0, i), -1);
                CHECK.due("trip", yard.trip(i, 0), -1);
                CHECK.due("plan", yard.plan(i, 1, 0), -1);
                CHECK.due("plan", yard.plan(0, i, 2), -1);
                CHECK.due("plan", yard.plan(0, 1, i), -1);
                CHECK.due("told", yard.told(i, 0), -1);
                CHECK.due("told", yard.told(0, i), -1);
                CHECK.due("count", yard.count(i), -1);
            }
        }, RefusedTest::busy, RefusedTest::goesOn);
    }
}
