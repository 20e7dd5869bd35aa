import java.util.ArrayList;
import java.util.Comparator;
import java.util.List;

/**
 * A second yard, written from the document alone and with no thought for speed or room: lists of
 * records, a search that keeps every node, WAITING sought anew each time. ModelTest holds
 * FleetYard against it.
 */
final class PlainYard {
    static final int NONE = -1;

    record Fault(int place, int number) { }

    record Act(int cell, int moment) { }

    record Coming(int tick, int number, boolean grant, int vehicle, int plan, int act, int cell) { }

    record Wait(int moment, int vehicle, int act) { }

    static final class Car {
        int parking;
        int cell;
        int plan;
        int act;
        int stage;
        boolean granted;
        int grantCell;
        int silent;
        int knownPlan;
        int knownAct;
        int gotPlan;
        int task = NONE;
        int lastGranted;
        int lastGrantTick;
        int first;
        List<Integer> trip = new ArrayList<>();
        List<Act> acts = new ArrayList<>();

        int at(int moment) {
            int i = moment - first;
            return i < 0 || i >= trip.size() ? parking : trip.get(i);
        }

        int known() {
            return knownPlan == gotPlan ? knownAct : 0;
        }

        boolean whole() {
            return gotPlan > 0 && known() == acts.size();
        }
    }

    static final class Job {
        int from;
        int to;
        int taker = NONE;
        int given = NONE;
        int finished = NONE;
    }

    static final class Node {
        final int cell;
        final int stage;
        final Node parent;

        Node(int cell, int stage, Node parent) {
            this.cell = cell;
            this.stage = stage;
            this.parent = parent;
        }
    }

    List<Integer> tape = new ArrayList<>();
    String signs = "PS";
    int width = 2;
    int place = NONE;
    List<Integer> fates = new ArrayList<>(List.of(0));
    List<Car> cars = new ArrayList<>();
    List<Integer> stations = new ArrayList<>();
    List<Job> jobs = new ArrayList<>();
    List<Coming> comings = new ArrayList<>();
    int tick;
    int sent;
    int lost;
    int actsDone;

    PlainYard() {
        settle("PS", 2);
    }

    void settle(String newSigns, int newWidth) {
        signs = newSigns;
        width = newWidth;
        fates = new ArrayList<>(List.of(0));
        cars = new ArrayList<>();
        stations = new ArrayList<>();
        jobs = new ArrayList<>();
        comings = new ArrayList<>();
        tick = 0;
        sent = 0;
        lost = 0;
        actsDone = 0;
        for (int c = 0; c < signs.length(); c++) {
            if (signs.charAt(c) == 'S') {
                stations.add(c);
            }
            if (signs.charAt(c) == 'P') {
                Car car = new Car();
                car.parking = c;
                car.cell = c;
                cars.add(car);
            }
        }
    }

    int feed(int... words) {
        if (tape.size() + 20 > 400) {
            return NONE;
        }
        for (int word : words) {
            tape.add(word >>> 24);
            tape.add(word >>> 16 & 255);
            tape.add(word >>> 8 & 255);
            tape.add(word & 255);
        }
        return tape.size();
    }

    int back(int n) {
        if (n < 0 || n > tape.size()) {
            return NONE;
        }
        tape = new ArrayList<>(tape.subList(0, tape.size() - n));
        return tape.size();
    }

    int read() {
        StringBuilder text = new StringBuilder();
        for (int b : tape) {
            text.append((char) b);
        }
        tape = new ArrayList<>();
        Fault fault = faultOf(text.toString());
        if (fault != null) {
            place = fault.place();
            return fault.number();
        }
        place = NONE;
        String all = text.toString();
        int end = all.indexOf('\n');
        settle(all.replace("\n", ""), end < 0 ? all.length() : end);
        return 0;
    }

    static Fault faultOf(String text) {
        List<Fault> faults = new ArrayList<>();
        int line = 0;
        int begin = 0;
        int first = NONE;
        while (begin < text.length() || line == 0) {
            int end = text.indexOf('\n', begin);
            if (end < 0) {
                end = text.length();
            }
            if (line == 0) {
                first = end - begin;
            }
            for (int i = begin; i < end; i++) {
                if ("#.SP".indexOf(text.charAt(i)) < 0) {
                    faults.add(new Fault(i, 1));
                }
            }
            if (end - begin > first) {
                faults.add(new Fault(begin + first, 2));
            }
            if (end - begin < first || first == 0) {
                faults.add(new Fault(end, 2));
            }
            if (line == 16) {
                faults.add(new Fault(begin, 3));
            }
            if (end - begin > 16) {
                faults.add(new Fault(begin + 16, 3));
            }
            line++;
            begin = end + 1;
        }
        if (!faults.isEmpty()) {
            faults.sort(Comparator.comparingInt(Fault::place).thenComparingInt(Fault::number));
            return faults.get(0);
        }
        String signs = text.replace("\n", "");
        long parkings = signs.chars().filter(c -> c == 'P').count();
        long stations = signs.chars().filter(c -> c == 'S').count();
        if (parkings == 0 || parkings > 6 || stations > 10) {
            return new Fault(text.length(), 4);
        }
        return faultOfWays(signs, first);
    }

    static Fault faultOfWays(String signs, int width) {
        for (int i = 0; i < signs.length(); i++) {
            for (int j = i + 1; j < signs.length(); j++) {
                if (endpoint(signs, i) && endpoint(signs, j) && !way(signs, width, i, j)) {
                    return new Fault(i, 5);
                }
            }
        }
        return null;
    }

    static boolean endpoint(String signs, int c) {
        return signs.charAt(c) == 'S' || signs.charAt(c) == 'P';
    }

    static boolean way(String signs, int width, int from, int to) {
        boolean[] in = new boolean[signs.length()];
        in[from] = true;
        boolean grown = true;
        while (grown) {
            grown = false;
            for (int c = 0; c < in.length; c++) {
                if (!in[c] || c != from && endpoint(signs, c)) {
                    continue;
                }
                for (int side = 0; side < 4; side++) {
                    int n = neighbour(signs, width, c, side);
                    if (n != NONE && !in[n]) {
                        in[n] = true;
                        grown = true;
                    }
                }
            }
        }
        return in[to];
    }

    static int neighbour(String signs, int width, int c, int side) {
        int x = c % width + (side == 1 ? 1 : side == 3 ? -1 : 0);
        int y = c / width + (side == 2 ? 1 : side == 0 ? -1 : 0);
        if (x < 0 || x >= width || y < 0 || y >= signs.length() / width) {
            return NONE;
        }
        return signs.charAt(y * width + x) == '#' ? NONE : y * width + x;
    }

    int place() {
        return place;
    }

    boolean fates(int n) {
        if (n < 1 || n > 64) {
            return false;
        }
        fates = new ArrayList<>();
        for (int i = 0; i < n; i++) {
            fates.add(0);
        }
        return true;
    }

    boolean fate(int i, int f) {
        if (i < 0 || i >= fates.size() || f < 0 || f > 15) {
            return false;
        }
        fates.set(i, f);
        return true;
    }

    int task(int a, int b) {
        boolean wrong = a < 0 || b < 0 || a >= stations.size() || b >= stations.size() || a == b;
        if (wrong || jobs.size() == 60) {
            return NONE;
        }
        Job job = new Job();
        job.from = a;
        job.to = b;
        jobs.add(job);
        return jobs.size() - 1;
    }

    int run(int n) {
        if (n < 1 || n > 50 || tick + n > 600) {
            return NONE;
        }
        int before = count(6);
        for (int i = 0; i < n; i++) {
            messagesCome();
            vehiclesAct();
            baseWorks();
            tick++;
        }
        return count(6) - before;
    }

    void messagesCome() {
        List<Coming> now = new ArrayList<>();
        for (Coming coming : comings) {
            if (coming.tick() == tick) {
                now.add(coming);
            }
        }
        comings.removeAll(now);
        now.sort(Comparator.comparingInt(Coming::number));
        for (int v = 0; v < cars.size(); v++) {
            boolean came = false;
            for (Coming coming : now) {
                if (coming.vehicle() != v) {
                    continue;
                }
                if (coming.grant()) {
                    came = true;
                    takeGrant(cars.get(v), coming);
                } else {
                    takeReport(cars.get(v), coming);
                }
            }
            cars.get(v).silent = came ? 0 : cars.get(v).silent + 1;
        }
    }

    static void takeGrant(Car car, Coming grant) {
        if (grant.plan() == car.plan + 1 && grant.act() == 1) {
            car.plan++;
            car.act = 0;
            car.stage = 0;
        }
        if (grant.plan() == car.plan && grant.act() == car.act + 1) {
            car.granted = true;
            car.grantCell = grant.cell();
        }
    }

    static void takeReport(Car car, Coming report) {
        int known = car.knownPlan * 1000 + car.knownAct;
        if (report.plan() * 1000 + report.act() > known) {
            car.knownPlan = report.plan();
            car.knownAct = report.act();
        }
    }

    void send(boolean grant, int vehicle, int plan, int act, int cell) {
        int fate = fates.get(sent % fates.size());
        int number = sent++;
        if (fate % 2 == 1) {
            lost++;
            return;
        }
        int due = tick + 1 + fate / 2 % 4;
        comings.add(new Coming(due, number, grant, vehicle, plan, act, cell));
        if (fate >= 8) {
            comings.add(new Coming(due + 1, number, grant, vehicle, plan, act, cell));
        }
    }

    void vehiclesAct() {
        for (int v = 0; v < cars.size(); v++) {
            Car car = cars.get(v);
            boolean acts = car.granted && car.silent < 10;
            if (acts) {
                car.granted = false;
                car.act++;
                actsDone++;
                if (car.grantCell == NONE) {
                    car.stage++;
                } else {
                    car.cell = car.grantCell;
                }
                if (car.stage == 2 && car.cell == car.parking) {
                    car.stage = 0;
                }
            }
            if (acts || tick % 2 == 0) {
                send(false, v, car.plan, car.act, NONE);
            }
        }
    }

    void baseWorks() {
        for (Car car : cars) {
            if (car.task != NONE && car.whole()) {
                jobs.get(car.task).finished = tick;
                car.task = NONE;
            }
        }
        giveJobs();
        for (int v = 0; v < cars.size(); v++) {
            grantNext(v, cars.get(v));
        }
    }

    void giveJobs() {
        for (int j = 0; j < jobs.size(); j++) {
            Job job = jobs.get(j);
            if (job.taker != NONE) {
                continue;
            }
            int idle = NONE;
            for (int v = cars.size() - 1; v >= 0; v--) {
                idle = cars.get(v).task == NONE ? v : idle;
            }
            if (idle == NONE) {
                return;
            }
            Node end = search(cars.get(idle), stations.get(job.from), stations.get(job.to));
            if (end == null) {
                return;
            }
            job.taker = idle;
            job.given = tick;
            cars.get(idle).task = j;
            cars.get(idle).gotPlan++;
            cars.get(idle).lastGranted = 0;
            keepTrip(cars.get(idle), end);
        }
    }

    Node search(Car car, int a, int b) {
        List<Node> layer = new ArrayList<>(List.of(new Node(car.parking, 0, null)));
        for (int moment = tick; moment < tick + 300; moment++) {
            boolean[][] seen = new boolean[signs.length()][3];
            List<Node> next = new ArrayList<>();
            for (Node node : layer) {
                for (int side = -1; side < 4; side++) {
                    int c = side < 0 ? node.cell : neighbour(signs, width, node.cell, side);
                    boolean shut = c == NONE
                            || endpoint(signs, c) && c != a && c != b && c != car.parking;
                    if (shut || !clear(car, node.cell, c, moment)) {
                        continue;
                    }
                    boolean turns = side < 0
                            && (node.stage == 0 && c == a || node.stage == 1 && c == b);
                    int stage = turns ? node.stage + 1 : node.stage;
                    if (!seen[c][stage]) {
                        seen[c][stage] = true;
                        next.add(new Node(c, stage, node));
                    }
                }
            }
            for (Node node : next) {
                if (node.stage == 2 && node.cell == car.parking) {
                    return node;
                }
            }
            layer = next;
        }
        return null;
    }

    boolean clear(Car car, int begins, int ends, int moment) {
        for (Car other : cars) {
            boolean meets = other.at(moment) == ends || other.at(moment + 1) == ends
                    || other.at(moment + 1) == begins;
            if (other != car && meets) {
                return false;
            }
        }
        return true;
    }

    void keepTrip(Car car, Node end) {
        List<Node> nodes = new ArrayList<>();
        for (Node node = end; node != null; node = node.parent) {
            nodes.add(0, node);
        }
        car.first = tick;
        car.trip = new ArrayList<>();
        car.acts = new ArrayList<>();
        for (int i = 0; i < nodes.size(); i++) {
            Node node = nodes.get(i);
            car.trip.add(node.cell);
            if (i > 0 && node.cell != nodes.get(i - 1).cell) {
                car.acts.add(new Act(node.cell, tick + i));
            } else if (i > 0 && node.stage != nodes.get(i - 1).stage) {
                car.acts.add(new Act(NONE, tick + i));
            }
        }
    }

    List<Wait> waiting(int c) {
        List<Wait> waits = new ArrayList<>();
        for (int v = 0; v < cars.size(); v++) {
            Car car = cars.get(v);
            for (int i = 1; i <= car.acts.size(); i++) {
                if (car.acts.get(i - 1).cell() == c && !over(car, i)) {
                    waits.add(new Wait(car.acts.get(i - 1).moment(), v, i));
                }
            }
        }
        waits.sort(Comparator.comparingInt(Wait::moment));
        return waits;
    }

    static boolean over(Car car, int i) {
        if (i == car.acts.size()) {
            return car.whole();
        }
        for (int j = i + 1; j <= car.known(); j++) {
            if (car.acts.get(j - 1).cell() != NONE) {
                return true;
            }
        }
        return false;
    }

    void grantNext(int v, Car car) {
        int n = car.known() + 1;
        if (car.gotPlan == 0 || n > car.acts.size()) {
            return;
        }
        Act act = car.acts.get(n - 1);
        boolean due;
        if (car.lastGranted < n) {
            due = act.moment() <= tick + 1 && (act.cell() == NONE || isFirst(act.cell(), v, n));
        } else {
            due = tick >= car.lastGrantTick + 4;
        }
        if (due) {
            car.lastGranted = n;
            car.lastGrantTick = tick;
            send(true, v, car.gotPlan, n, act.cell());
        }
    }

    boolean isFirst(int c, int v, int n) {
        List<Wait> waits = waiting(c);
        return !waits.isEmpty() && waits.get(0).vehicle() == v && waits.get(0).act() == n;
    }

    int cell(int c, int what) {
        if (c < 0 || c >= signs.length()) {
            return NONE;
        }
        List<Wait> waits = waiting(c);
        return switch (what) {
            case 0 -> "#.SP".indexOf(signs.charAt(c));
            case 1 -> ordinal(c);
            case 2 -> carIn(c);
            case 3, 4, 5, 6 -> neighbour(signs, width, c, what - 3);
            case 7 -> waits.size();
            case 8 -> waits.isEmpty() ? NONE : waits.get(0).vehicle();
            default -> NONE;
        };
    }

    int ordinal(int c) {
        if (!endpoint(signs, c)) {
            return NONE;
        }
        int before = 0;
        for (int i = 0; i < c; i++) {
            before += signs.charAt(i) == signs.charAt(c) ? 1 : 0;
        }
        return before;
    }

    int carIn(int c) {
        for (int v = 0; v < cars.size(); v++) {
            if (cars.get(v).cell == c) {
                return v;
            }
        }
        return NONE;
    }

    int vehicle(int v, int what) {
        if (v < 0 || v >= cars.size()) {
            return NONE;
        }
        Car car = cars.get(v);
        return switch (what) {
            case 0 -> car.cell;
            case 1 -> car.stage;
            case 2 -> car.plan;
            case 3 -> car.act;
            case 4 -> car.granted ? 1 : 0;
            case 5 -> car.silent >= 10 ? 1 : 0;
            case 6 -> car.silent;
            case 7 -> car.task == NONE ? 1 : 0;
            case 8 -> car.knownPlan;
            case 9 -> car.knownAct;
            case 10 -> car.gotPlan;
            case 11 -> car.task;
            case 12 -> car.acts.size();
            case 13 -> car.lastGranted;
            default -> NONE;
        };
    }

    int trip(int v, int t) {
        return v < 0 || v >= cars.size() || t < 0 ? NONE : cars.get(v).at(t);
    }

    int plan(int v, int i, int what) {
        if (v < 0 || v >= cars.size() || cars.get(v).gotPlan == 0) {
            return NONE;
        }
        Car car = cars.get(v);
        if (what == 0) {
            return car.first;
        }
        if (what == 1) {
            return car.first + car.trip.size() - 1;
        }
        if (i < 1 || i > car.acts.size()) {
            return NONE;
        }
        return what == 2 ? car.acts.get(i - 1).cell() : what == 3 ? car.acts.get(i - 1).moment() : NONE;
    }

    int told(int task, int what) {
        if (task < 0 || task >= jobs.size()) {
            return NONE;
        }
        Job job = jobs.get(task);
        return switch (what) {
            case 0 -> job.from;
            case 1 -> job.to;
            case 2 -> job.taker;
            case 3 -> job.given;
            case 4 -> job.finished;
            default -> NONE;
        };
    }

    int count(int what) {
        return switch (what) {
            case 0 -> signs.length();
            case 1 -> width;
            case 2 -> cars.size();
            case 3 -> stations.size();
            case 4 -> jobs.size();
            case 5 -> (int) jobs.stream().filter(job -> job.taker != NONE).count();
            case 6 -> (int) jobs.stream().filter(job -> job.finished != NONE).count();
            case 7 -> tick;
            case 8 -> sent;
            case 9 -> lost;
            case 10 -> comings.size();
            case 11 -> actsDone;
            case 12 -> tape.size();
            default -> NONE;
        };
    }
}
