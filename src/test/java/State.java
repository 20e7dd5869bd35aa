import java.util.LinkedHashMap;
import java.util.Map;
import java.util.function.Consumer;

/** All that a small yard answers at one time, and two yards held against one another by it. */
final class State {
    private final Map<String, Integer> answers = new LinkedHashMap<>();

    private State() {
    }

    static State of(Yard yard) {
        State state = new State();
        for (int what = 0; what <= 12; what++) {
            state.put("count(" + what + ")", yard.count(what));
        }
        state.put("place()", yard.place());
        state.putCells(yard);
        for (int v = 0; v < state.get("count(2)"); v++) {
            state.putVehicle(yard, v);
        }
        for (int task = 0; task < state.get("count(4)"); task++) {
            for (int what = 0; what <= 4; what++) {
                state.put("told(" + task + ", " + what + ")", yard.told(task, what));
            }
        }
        return state;
    }

    private void putCells(Yard yard) {
        for (int c = 0; c < get("count(0)"); c++) {
            for (int what = 0; what <= 8; what++) {
                put("cell(" + c + ", " + what + ")", yard.cell(c, what));
            }
        }
    }

    private void putVehicle(Yard yard, int v) {
        for (int what = 0; what <= 13; what++) {
            put("vehicle(" + v + ", " + what + ")", yard.vehicle(v, what));
        }
        for (int what = 0; what <= 1; what++) {
            put("plan(" + v + ", 0, " + what + ")", yard.plan(v, 0, what));
        }
        for (int i = 1; i <= get("vehicle(" + v + ", 12)"); i++) {
            put("plan(" + v + ", " + i + ", 2)", yard.plan(v, i, 2));
            put("plan(" + v + ", " + i + ", 3)", yard.plan(v, i, 3));
        }
        int first = get("plan(" + v + ", 0, 0)");
        int last = get("plan(" + v + ", 0, 1)");
        for (int t = Math.max(first - 1, 0); t <= last + 1; t++) {
            put("trip(" + v + ", " + t + ")", yard.trip(v, t));
        }
    }

    private void put(String call, int answer) {
        answers.put(call, answer);
    }

    private int get(String call) {
        return answers.get(call);
    }

    void holdAgainst(State due, Check check, String when) {
        check.due(when + ": as many answers", answers.size(), due.answers.size());
        for (String call : due.answers.keySet()) {
            check.due(when + ": " + call, answers.getOrDefault(call, Integer.MIN_VALUE), due.get(call));
        }
    }

    /** Two yards go different ways to where they should be one and the same, now and later. */
    static void same(Check check, String when, Consumer<Yard> one, Consumer<Yard> other,
            Consumer<Yard> later) {
        Yard changed = new Yard();
        Yard due = new Yard();
        one.accept(changed);
        other.accept(due);
        of(changed).holdAgainst(of(due), check, when);
        later.accept(changed);
        later.accept(due);
        of(changed).holdAgainst(of(due), check, when + ", later");
    }
}
