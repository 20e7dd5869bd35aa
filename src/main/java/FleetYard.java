import java.util.Arrays;

/** A yard of vehicles without drivers, as the promises of DOC.md tell it. */
public final class FleetYard {
    public static final int NONE = -1;

    private static final int MOST_TICKS = 600;
    private static final int MOST_TICKS_A_CALL = 50;
    private static final int MOST_VEHICLES = 6;
    private static final int MOST_STATIONS = 10;
    private static final int MOST_LINES = 16;
    private static final int MOST_COLUMNS = 16;
    private static final int MOST_CELLS = MOST_LINES * MOST_COLUMNS;
    private static final int MOST_STEPS = 300;

    private static final int WALL = 0;
    private static final int FLOOR = 1;
    private static final int STATION = 2;
    private static final int PARKING = 3;

    private static final int SIDES = 4;

    private static final int EMPTY = 0;
    private static final int LOADED = 1;
    private static final int DONE = 2;
    private static final int STAGES = 3;

    private final Tape tape = new Tape();
    private final Judge judge = new Judge();
    private final Radio radio = new Radio();
    private final TaskBook tasks = new TaskBook();
    private final Base base = new Base();
    private final Vehicle[] vehicles = new Vehicle[MOST_VEHICLES];
    // A text is judged in the spare map, so that one with a fault changes nothing.
    private YardMap map = new YardMap();
    private YardMap spareMap = new YardMap();
    private int faultPlace = NONE;
    private int tick;
    private int actsDone;

    public FleetYard() {
        for (int v = 0; v < MOST_VEHICLES; v++) {
            vehicles[v] = new Vehicle();
        }
        map.addCell(PARKING);
        map.addCell(STATION);
        map.width = 2;
        map.joinCells();
        beginAnew();
    }

    public int feed(int a, int b, int c, int d, int e) {
        if (!tape.hasRoomForFive()) {
            return NONE;
        }
        tape.addWord(a);
        tape.addWord(b);
        tape.addWord(c);
        tape.addWord(d);
        tape.addWord(e);
        return tape.length;
    }

    public int back(int n) {
        if (n < 0 || n > tape.length) {
            return NONE;
        }
        tape.length -= n;
        return tape.length;
    }

    public int read() {
        int fault = judge.faultOf(tape, spareMap);
        faultPlace = judge.faultPlace;
        tape.length = 0;
        if (fault == 0) {
            YardMap old = map;
            map = spareMap;
            spareMap = old;
            beginAnew();
        }
        return fault;
    }

    public int place() {
        return faultPlace;
    }

    public boolean fates(int n) {
        return radio.clearFates(n);
    }

    public boolean fate(int i, int f) {
        return radio.setFate(i, f);
    }

    public int task(int a, int b) {
        if (map.stationCell(a) == NONE || map.stationCell(b) == NONE || a == b) {
            return NONE;
        }
        return tasks.add(a, b);
    }

    public int run(int n) {
        if (n < 1 || n > MOST_TICKS_A_CALL || tick + n > MOST_TICKS) {
            return NONE;
        }
        int finishedBefore = tasks.finished;
        for (int i = 0; i < n; i++) {
            takeMessages();
            driveVehicles();
            base.noteFinished(tasks, tick);
            base.handOut(map, tasks, tick);
            base.sendGrants(radio, tick);
            tick++;
        }
        return tasks.finished - finishedBefore;
    }

    public int cell(int c, int what) {
        if (!map.hasCell(c)) {
            return NONE;
        }
        switch (what) {
            case 0:
                return map.kindOf(c);
            case 1:
                return map.ordinalOf(c);
            case 2:
                return vehicleIn(c);
            case 3:
            case 4:
            case 5:
            case 6:
                return map.neighbour(c, what - 3);
            case 7:
                return base.waitingAt(c);
            case 8:
                return base.firstWaitingAt(c);
            default:
                return NONE;
        }
    }

    public int vehicle(int v, int what) {
        Vehicle vehicle = vehicleAt(v);
        Account account = base.accountAt(v);
        if (vehicle == null || account == null) {
            return NONE;
        }
        return what < 7 ? ofVehicle(vehicle, account, what) : ofAccount(account, what);
    }

    public int trip(int v, int t) {
        Account account = base.accountAt(v);
        if (account == null || t < 0) {
            return NONE;
        }
        return account.route.cellAt(t);
    }

    public int plan(int v, int i, int what) {
        Account account = base.accountAt(v);
        if (account == null || account.plan == 0) {
            return NONE;
        }
        switch (what) {
            case 0:
                return account.route.start;
            case 1:
                return account.route.lastMoment();
            case 2:
                return account.route.cellOfAct(i);
            case 3:
                return account.route.momentOfAct(i);
            default:
                return NONE;
        }
    }

    public int told(int task, int what) {
        return tasks.answer(task, what);
    }

    public int count(int what) {
        switch (what) {
            case 0:
                return map.cells;
            case 1:
                return map.width;
            case 2:
                return map.parkingCount;
            case 3:
                return map.stationCount;
            case 4:
                return tasks.came;
            case 5:
                return tasks.given;
            case 6:
                return tasks.finished;
            case 7:
                return tick;
            case 8:
                return radio.sent;
            case 9:
                return radio.lost;
            case 10:
                return radio.comingsOnTheWay();
            case 11:
                return actsDone;
            case 12:
                return tape.length;
            default:
                return NONE;
        }
    }

    private void beginAnew() {
        tick = 0;
        actsDone = 0;
        tasks.clear();
        radio.clear();
        base.beginAnew(map);
        for (int v = 0; v < MOST_VEHICLES; v++) {
            vehicles[v].beginAnew(map.parkingCell(v));
        }
    }

    private Vehicle vehicleAt(int v) {
        return v >= 0 && v < map.parkingCount && v < MOST_VEHICLES ? vehicles[v] : null;
    }

    private int vehicleIn(int c) {
        for (int v = 0; v < map.parkingCount; v++) {
            Vehicle vehicle = vehicleAt(v);
            if (vehicle != null && vehicle.cell == c) {
                return v;
            }
        }
        return NONE;
    }

    private static int ofVehicle(Vehicle vehicle, Account account, int what) {
        switch (what) {
            case 0:
                return vehicle.cell;
            case 1:
                // A vehicle that has not heard of its latest plan did the one before it whole.
                return vehicle.plan == account.plan ? account.route.stageAfter(vehicle.act) : EMPTY;
            case 2:
                return vehicle.plan;
            case 3:
                return vehicle.act;
            case 4:
                return vehicle.hasGrant ? 1 : 0;
            case 5:
                return vehicle.halts() ? 1 : 0;
            case 6:
                return vehicle.silent;
            default:
                return NONE;
        }
    }

    private static int ofAccount(Account account, int what) {
        switch (what) {
            case 7:
                return account.isIdle() ? 1 : 0;
            case 8:
                return account.knownPlan;
            case 9:
                return account.knownAct;
            case 10:
                return account.plan;
            case 11:
                return account.task;
            case 12:
                return account.route.acts;
            case 13:
                return account.granted;
            default:
                return NONE;
        }
    }

    private void takeMessages() {
        for (int v = 0; v < MOST_VEHICLES; v++) {
            vehicles[v].silent++;
        }
        for (int i = 0; i < radio.size; i++) {
            Message message = radio.comingAt(i, tick);
            if (message != null) {
                deliver(message);
            }
        }
        radio.forgetCome(tick);
    }

    private void deliver(Message message) {
        Vehicle vehicle = vehicleAt(message.vehicle);
        Account account = base.accountAt(message.vehicle);
        if (vehicle == null || account == null) {
            return;
        }
        if (message.isGrant) {
            vehicle.hear(message);
        } else {
            account.learn(message);
        }
    }

    private void driveVehicles() {
        for (int v = 0; v < map.parkingCount; v++) {
            Vehicle vehicle = vehicleAt(v);
            if (vehicle == null) {
                continue;
            }
            boolean acted = vehicle.obey();
            if (acted) {
                actsDone++;
            }
            if (acted || tick % 2 == 0) {
                radio.send(tick, false, v, vehicle.plan, vehicle.act, NONE);
            }
        }
    }

    /** The bytes that were fed and not yet read. */
    private static final class Tape {
        static final int MOST_BYTES = 400;
        static final int BYTES_OF_FIVE = 20;

        final byte[] bytes = new byte[MOST_BYTES];
        int length;

        boolean hasRoomForFive() {
            return length + BYTES_OF_FIVE <= MOST_BYTES;
        }

        void addWord(int word) {
            for (int shift = 24; shift >= 0; shift -= 8) {
                if (length < MOST_BYTES) {
                    bytes[length] = (byte) (word >>> shift);
                    length++;
                }
            }
        }
    }

    /** The cells of a yard, their kinds and how they lie to one another. */
    private static final class YardMap {
        final int[] kinds = new int[MOST_CELLS];
        final int[] ordinals = new int[MOST_CELLS];
        final int[] neighbours = new int[MOST_CELLS * SIDES];
        final int[] stations = new int[MOST_STATIONS];
        final int[] parkings = new int[MOST_VEHICLES];
        int cells;
        int width;
        int stationCount;
        int parkingCount;

        void clear() {
            cells = 0;
            width = 0;
            stationCount = 0;
            parkingCount = 0;
        }

        void addCell(int kind) {
            if (cells >= MOST_CELLS) {
                return;
            }
            kinds[cells] = kind;
            ordinals[cells] = NONE;
            if (kind == STATION) {
                addStation();
            } else if (kind == PARKING) {
                addParking();
            }
            cells++;
        }

        // The counts go on above the most there may be: that is how the judge sees the fault.
        private void addStation() {
            ordinals[cells] = stationCount;
            if (stationCount < MOST_STATIONS) {
                stations[stationCount] = cells;
            }
            stationCount++;
        }

        private void addParking() {
            ordinals[cells] = parkingCount;
            if (parkingCount < MOST_VEHICLES) {
                parkings[parkingCount] = cells;
            }
            parkingCount++;
        }

        boolean hasCell(int c) {
            return c >= 0 && c < cells && c < MOST_CELLS;
        }

        int kindOf(int c) {
            return hasCell(c) ? kinds[c] : NONE;
        }

        int ordinalOf(int c) {
            return hasCell(c) ? ordinals[c] : NONE;
        }

        boolean isEndpoint(int c) {
            int kind = kindOf(c);
            return kind == STATION || kind == PARKING;
        }

        int stationCell(int s) {
            return s >= 0 && s < stationCount && s < MOST_STATIONS ? stations[s] : NONE;
        }

        int parkingCell(int p) {
            return p >= 0 && p < parkingCount && p < MOST_VEHICLES ? parkings[p] : NONE;
        }

        /** Called when all cells are there: the sides of a cell are not known earlier. */
        void joinCells() {
            for (int c = 0; c < cells && c < MOST_CELLS; c++) {
                for (int side = 0; side < SIDES; side++) {
                    int next = cellBeside(c, side);
                    neighbours[c * SIDES + side] = kindOf(next) == WALL ? NONE : next;
                }
            }
        }

        private int cellBeside(int c, int side) {
            int column = width > 0 ? c % width : 0;
            switch (side) {
                case 0:
                    return c >= width ? c - width : NONE;
                case 1:
                    return column + 1 < width ? c + 1 : NONE;
                case 2:
                    return c + width < cells ? c + width : NONE;
                case 3:
                    return column > 0 ? c - 1 : NONE;
                default:
                    return NONE;
            }
        }

        int neighbour(int c, int side) {
            boolean isThere = hasCell(c) && side >= 0 && side < SIDES;
            return isThere ? neighbours[c * SIDES + side] : NONE;
        }
    }

    /** Makes a map of a text and finds its first fault. */
    private static final class Judge {
        static final int NO_FAULT = 0;
        static final int WRONG_SIGN = 1;
        static final int WRONG_LENGTH = 2;
        static final int TOO_LARGE = 3;
        static final int WRONG_NUMBERS = 4;
        static final int NO_WAY = 5;
        static final int LINE_END = 10;

        final int[] queue = new int[MOST_CELLS];
        final int[] seen = new int[MOST_CELLS];
        int faultPlace = NONE;
        int line;
        int column;

        int faultOf(Tape tape, YardMap map) {
            map.clear();
            line = 0;
            column = 0;
            int fault = faultOfSigns(tape, map);
            if (fault == NO_FAULT) {
                map.joinCells();
                fault = faultOfNumbers(map);
            }
            if (fault == NO_FAULT) {
                fault = faultOfWays(map);
            }
            if (fault == NO_FAULT) {
                faultPlace = NONE;
            }
            return fault;
        }

        private int faultOfSigns(Tape tape, YardMap map) {
            for (int i = 0; i < tape.length && i < Tape.MOST_BYTES; i++) {
                int fault = takeByte(tape.bytes[i], map);
                if (fault != NO_FAULT) {
                    faultPlace = i;
                    return fault;
                }
            }
            faultPlace = tape.length;
            boolean lastLineIsClosed = line > 0 && column == 0;
            return lastLineIsClosed ? NO_FAULT : endLine(map);
        }

        private int takeByte(int sign, YardMap map) {
            if (sign == LINE_END) {
                return endLine(map);
            }
            int kind = kindOfSign(sign);
            if (kind == NONE) {
                return WRONG_SIGN;
            }
            if (line > 0 && column >= map.width) {
                return WRONG_LENGTH;
            }
            if (line >= MOST_LINES || column >= MOST_COLUMNS) {
                return TOO_LARGE;
            }
            map.addCell(kind);
            column++;
            return NO_FAULT;
        }

        private int endLine(YardMap map) {
            if (line == 0) {
                map.width = column;
            }
            if (column == 0 || column < map.width) {
                return WRONG_LENGTH;
            }
            line++;
            column = 0;
            return NO_FAULT;
        }

        private static int kindOfSign(int sign) {
            switch (sign) {
                case '#':
                    return WALL;
                case '.':
                    return FLOOR;
                case 'S':
                    return STATION;
                case 'P':
                    return PARKING;
                default:
                    return NONE;
            }
        }

        private static int faultOfNumbers(YardMap map) {
            boolean right = map.parkingCount >= 1 && map.parkingCount <= MOST_VEHICLES
                    && map.stationCount <= MOST_STATIONS;
            return right ? NO_FAULT : WRONG_NUMBERS;
        }

        private int faultOfWays(YardMap map) {
            for (int c = 0; c < map.cells; c++) {
                if (map.isEndpoint(c) && !reachesLaterEndpoints(map, c)) {
                    faultPlace = c;
                    return NO_WAY;
                }
            }
            return NO_FAULT;
        }

        private boolean reachesLaterEndpoints(YardMap map, int from) {
            flood(map, from);
            for (int c = from; c < map.cells && c < MOST_CELLS; c++) {
                if (map.isEndpoint(c) && seen[c] == 0) {
                    return false;
                }
            }
            return true;
        }

        private void flood(YardMap map, int from) {
            Arrays.fill(seen, 0);
            int size = visit(from, 0);
            for (int i = 0; i < size && i < MOST_CELLS; i++) {
                int c = queue[i];
                if (c != from && map.isEndpoint(c)) {
                    continue;
                }
                for (int side = 0; side < SIDES; side++) {
                    size = visit(map.neighbour(c, side), size);
                }
            }
        }

        private int visit(int c, int size) {
            if (c < 0 || c >= MOST_CELLS || seen[c] != 0 || size < 0 || size >= MOST_CELLS) {
                return size;
            }
            seen[c] = 1;
            queue[size] = c;
            return size + 1;
        }
    }

    /** A grant to a vehicle, or a report of one. */
    private static final class Message {
        boolean isGrant;
        int vehicle;
        int plan;
        int act;
        int cell;
        int due;
        int comings;
    }

    /** Carries messages, and loses, delays and doubles them by their fates. */
    private static final class Radio {
        static final int MOST_FATES = 64;
        static final int MOST_FATE = 15;
        // Five ticks are the longest way, and in each six vehicles send and are sent one: 60.
        static final int MOST_ON_THE_WAY = 64;

        final int[] fateRow = new int[MOST_FATES];
        // Ordered by the messages' numbers, as they are added in that order.
        final Message[] messages = new Message[MOST_ON_THE_WAY];
        int fateCount = 1;
        int size;
        int sent;
        int lost;

        Radio() {
            for (int i = 0; i < MOST_ON_THE_WAY; i++) {
                messages[i] = new Message();
            }
        }

        void clear() {
            clearFates(1);
            size = 0;
            sent = 0;
            lost = 0;
        }

        boolean clearFates(int n) {
            if (n < 1 || n > MOST_FATES) {
                return false;
            }
            Arrays.fill(fateRow, 0);
            fateCount = n;
            return true;
        }

        boolean setFate(int i, int f) {
            if (i < 0 || i >= fateCount || i >= MOST_FATES || f < 0 || f > MOST_FATE) {
                return false;
            }
            fateRow[i] = f;
            return true;
        }

        void send(int tick, boolean isGrant, int vehicle, int plan, int act, int cell) {
            int fate = fateOfNext();
            sent++;
            if ((fate & 1) != 0) {
                lost++;
                return;
            }
            if (size < 0 || size >= MOST_ON_THE_WAY) {
                return;
            }
            Message message = messages[size];
            size++;
            message.isGrant = isGrant;
            message.vehicle = vehicle;
            message.plan = plan;
            message.act = act;
            message.cell = cell;
            message.due = tick + 1 + (fate >> 1 & 3);
            message.comings = (fate & 8) != 0 ? 2 : 1;
        }

        private int fateOfNext() {
            int i = fateCount > 0 ? sent % fateCount : 0;
            return i >= 0 && i < MOST_FATES ? fateRow[i] : 0;
        }

        Message comingAt(int i, int tick) {
            if (i < 0 || i >= size || i >= MOST_ON_THE_WAY) {
                return null;
            }
            return messages[i].due == tick ? messages[i] : null;
        }

        void forgetCome(int tick) {
            int kept = 0;
            for (int i = 0; i < size && i < MOST_ON_THE_WAY; i++) {
                Message message = messages[i];
                if (message.due == tick) {
                    message.comings--;
                    message.due++;
                }
                if (message.comings > 0 && kept < MOST_ON_THE_WAY) {
                    messages[i] = messages[kept];
                    messages[kept] = message;
                    kept++;
                }
            }
            size = kept;
        }

        int comingsOnTheWay() {
            int comings = 0;
            for (int i = 0; i < size && i < MOST_ON_THE_WAY; i++) {
                comings += messages[i].comings;
            }
            return comings;
        }
    }

    /** What a vehicle itself knows and does. */
    private static final class Vehicle {
        static final int SILENCE_THAT_HALTS = 10;

        int cell;
        int plan;
        int act;
        boolean hasGrant;
        int grantedCell;
        int silent;

        void beginAnew(int parking) {
            cell = parking;
            plan = 0;
            act = 0;
            hasGrant = false;
            grantedCell = NONE;
            silent = 0;
        }

        boolean halts() {
            return silent >= SILENCE_THAT_HALTS;
        }

        void hear(Message grant) {
            silent = 0;
            boolean isNextAct = grant.plan == plan && grant.act == act + 1;
            boolean isNextPlan = grant.plan == plan + 1 && grant.act == 1;
            if (isNextPlan) {
                plan = grant.plan;
                act = 0;
            }
            if (isNextAct || isNextPlan) {
                hasGrant = true;
                grantedCell = grant.cell;
            }
        }

        boolean obey() {
            if (!hasGrant || halts()) {
                return false;
            }
            if (grantedCell != NONE) {
                cell = grantedCell;
            }
            act++;
            hasGrant = false;
            return true;
        }
    }

    /** A trip, moment by moment, and its acts, numbered from 1 on. */
    private static final class Route {
        final int[] cells = new int[MOST_STEPS + 1];
        final int[] actMoments = new int[MOST_STEPS + 1];
        int parking;
        int start;
        int steps;
        int acts;
        int loadingAct;
        int endingAct;

        void begin(int parkingCell, int moment) {
            parking = parkingCell;
            start = moment;
            steps = 0;
            acts = 0;
            loadingAct = 0;
            endingAct = 0;
            cells[0] = parkingCell;
        }

        void addMove(int c) {
            if (addStep(c)) {
                addAct();
            }
        }

        void addWait(int c) {
            addStep(c);
        }

        void addTurn(int c, int stageAfter) {
            if (addStep(c)) {
                addAct();
                if (stageAfter == LOADED) {
                    loadingAct = acts;
                } else {
                    endingAct = acts;
                }
            }
        }

        private boolean addStep(int c) {
            if (steps < 0 || steps >= MOST_STEPS) {
                return false;
            }
            steps++;
            cells[steps] = c;
            return true;
        }

        private void addAct() {
            if (acts < 0 || acts >= MOST_STEPS) {
                return;
            }
            acts++;
            actMoments[acts] = start + steps;
        }

        int lastMoment() {
            return start + steps;
        }

        int cellAt(int moment) {
            int step = moment - start;
            return step > 0 && step < steps && step <= MOST_STEPS ? cells[step] : parking;
        }

        boolean hasAct(int i) {
            return i >= 1 && i <= acts && i <= MOST_STEPS;
        }

        int cellOfAct(int i) {
            boolean isMove = hasAct(i) && i != loadingAct && i != endingAct;
            return isMove ? cellAt(actMoments[i]) : NONE;
        }

        int momentOfAct(int i) {
            return hasAct(i) ? actMoments[i] : NONE;
        }

        int stageAfter(int act) {
            if (act >= acts || act < loadingAct) {
                return EMPTY;
            }
            return act < endingAct ? LOADED : DONE;
        }
    }

    /** What the base knows of one vehicle. */
    private static final class Account {
        final Route route = new Route();
        int plan;
        int task;
        int knownPlan;
        int knownAct;
        int granted;
        int grantTick;

        void beginAnew(int parking) {
            route.begin(parking, 0);
            plan = 0;
            task = NONE;
            knownPlan = 0;
            knownAct = 0;
            granted = 0;
            grantTick = 0;
        }

        void take(int newTask) {
            plan++;
            task = newTask;
            granted = 0;
        }

        void learn(Message report) {
            boolean isGreater = report.plan > knownPlan
                    || report.plan == knownPlan && report.act > knownAct;
            if (isGreater) {
                knownPlan = report.plan;
                knownAct = report.act;
            }
        }

        boolean isIdle() {
            return task == NONE;
        }

        int actsKnown() {
            return knownPlan == plan ? knownAct : 0;
        }

        boolean isDoneWhole() {
            return actsKnown() >= route.acts;
        }

        int nextActTo(int c) {
            for (int i = firstActNotOver(); i <= route.acts; i++) {
                if (route.cellOfAct(i) == c) {
                    return i;
                }
            }
            return 0;
        }

        int openActsTo(int c) {
            int open = 0;
            for (int i = firstActNotOver(); i <= route.acts; i++) {
                if (route.cellOfAct(i) == c) {
                    open++;
                }
            }
            return open;
        }

        // The last move known to be done is not over: the vehicle may still be where it led.
        private int firstActNotOver() {
            if (isDoneWhole()) {
                return route.acts + 1;
            }
            for (int i = actsKnown(); i >= 1; i--) {
                if (route.cellOfAct(i) != NONE) {
                    return i;
                }
            }
            return 1;
        }
    }

    /** The tasks that came, in their order. */
    private static final class TaskBook {
        static final int MOST_TASKS = 60;

        final int[] from = new int[MOST_TASKS];
        final int[] to = new int[MOST_TASKS];
        final int[] takers = new int[MOST_TASKS];
        final int[] takenAt = new int[MOST_TASKS];
        final int[] finishedAt = new int[MOST_TASKS];
        int came;
        int given;
        int finished;

        void clear() {
            came = 0;
            given = 0;
            finished = 0;
        }

        int add(int a, int b) {
            if (came < 0 || came >= MOST_TASKS) {
                return NONE;
            }
            from[came] = a;
            to[came] = b;
            takers[came] = NONE;
            takenAt[came] = NONE;
            finishedAt[came] = NONE;
            came++;
            return came - 1;
        }

        boolean has(int i) {
            return i >= 0 && i < came && i < MOST_TASKS;
        }

        void give(int i, int v, int tick) {
            if (has(i)) {
                takers[i] = v;
                takenAt[i] = tick;
                given++;
            }
        }

        void finish(int i, int tick) {
            if (has(i)) {
                finishedAt[i] = tick;
                finished++;
            }
        }

        int answer(int i, int what) {
            if (!has(i)) {
                return NONE;
            }
            switch (what) {
                case 0:
                    return from[i];
                case 1:
                    return to[i];
                case 2:
                    return takers[i];
                case 3:
                    return takenAt[i];
                case 4:
                    return finishedAt[i];
                default:
                    return NONE;
            }
        }
    }

    /** Hands out tasks and grants acts, by what the reports tell it. */
    private static final class Base {
        static final int TICKS_TO_GRANT_AGAIN = 4;

        final Account[] accounts = new Account[MOST_VEHICLES];
        final Planner planner = new Planner();
        int fleet;
        // Once none is under way, a trip that was not found is not found later either.
        int hopelessTask = NONE;
        int hopelessVehicle = NONE;

        Base() {
            for (int v = 0; v < MOST_VEHICLES; v++) {
                accounts[v] = new Account();
            }
        }

        void beginAnew(YardMap map) {
            fleet = Math.min(map.parkingCount, MOST_VEHICLES);
            hopelessTask = NONE;
            hopelessVehicle = NONE;
            for (int v = 0; v < MOST_VEHICLES; v++) {
                accounts[v].beginAnew(map.parkingCell(v));
            }
        }

        Account accountAt(int v) {
            return v >= 0 && v < fleet ? accounts[v] : null;
        }

        int waitingAt(int c) {
            int waiting = 0;
            for (int v = 0; v < fleet; v++) {
                waiting += accounts[v].openActsTo(c);
            }
            return waiting;
        }

        int firstWaitingAt(int c) {
            int first = NONE;
            int firstMoment = 0;
            for (int v = 0; v < fleet; v++) {
                int act = accounts[v].nextActTo(c);
                int moment = accounts[v].route.momentOfAct(act);
                if (act != 0 && (first == NONE || moment < firstMoment)) {
                    first = v;
                    firstMoment = moment;
                }
            }
            return first;
        }

        void noteFinished(TaskBook tasks, int tick) {
            for (int v = 0; v < fleet; v++) {
                Account account = accounts[v];
                if (!account.isIdle() && account.isDoneWhole()) {
                    tasks.finish(account.task, tick);
                    account.task = NONE;
                }
            }
        }

        void handOut(YardMap map, TaskBook tasks, int tick) {
            for (int i = tasks.given; i < tasks.came; i++) {
                int v = leastIdle();
                if (v == NONE || !givePlan(map, v, tasks, i, tick)) {
                    return;
                }
            }
        }

        private int leastIdle() {
            for (int v = 0; v < fleet; v++) {
                if (accounts[v].isIdle()) {
                    return v;
                }
            }
            return NONE;
        }

        private boolean givePlan(YardMap map, int v, TaskBook tasks, int i, int tick) {
            if (v < 0 || v >= MOST_VEHICLES || !tasks.has(i)) {
                return false;
            }
            if (hopelessTask == i && hopelessVehicle == v) {
                return false;
            }
            int from = map.stationCell(tasks.from[i]);
            int to = map.stationCell(tasks.to[i]);
            if (!planner.findTrip(map, accounts, v, from, to, tick)) {
                noteHopeless(v, i, tick);
                return false;
            }
            accounts[v].take(i);
            tasks.give(i, v, tick);
            return true;
        }

        private void noteHopeless(int v, int i, int tick) {
            for (int other = 0; other < fleet; other++) {
                if (accounts[other].route.lastMoment() > tick) {
                    return;
                }
            }
            hopelessTask = i;
            hopelessVehicle = v;
        }

        void sendGrants(Radio radio, int tick) {
            for (int v = 0; v < fleet; v++) {
                Account account = accounts[v];
                int act = account.actsKnown() + 1;
                if (account.route.hasAct(act) && isGrantDue(v, act, tick)) {
                    account.granted = act;
                    account.grantTick = tick;
                    radio.send(tick, true, v, account.plan, act, account.route.cellOfAct(act));
                }
            }
        }

        private boolean isGrantDue(int v, int act, int tick) {
            Account account = accountAt(v);
            if (account == null) {
                return false;
            }
            if (account.granted >= act) {
                return tick - account.grantTick >= TICKS_TO_GRANT_AGAIN;
            }
            if (account.route.momentOfAct(act) > tick + 1) {
                return false;
            }
            int c = account.route.cellOfAct(act);
            return c == NONE || firstWaitingAt(c) == v && account.nextActTo(c) == act;
        }
    }

    /**
     * Finds the trip with the fewest steps, and of equal ones the first.
     * What can be reached at a moment is held as one number for each line of the map: a bit for
     * each cell of it, once for each stage. So a step costs a few operations a line.
     */
    private static final class Planner {
        // More than a line has cells: a bit that is shifted out of its line falls between stages.
        static final int STAGE_BITS = 20;

        final long[] reached = new long[(MOST_STEPS + 1) * MOST_LINES];
        final long[] open = new long[MOST_LINES];
        // Where staying leads to the next stage.
        final long[] turns = new long[MOST_LINES];
        long[] heldBefore = new long[MOST_LINES];
        long[] heldAfter = new long[MOST_LINES];
        YardMap map;
        Account[] accounts;
        int width = 1;
        int lines;
        int own;
        int start;
        int from;
        int to;
        int parking;

        boolean findTrip(YardMap yard, Account[] fleet, int v, int a, int b, int moment) {
            if (yard == null || yard.width <= 0 || fleet == null || v < 0 || v >= fleet.length) {
                return false;
            }
            map = yard;
            accounts = fleet;
            width = yard.width;
            lines = Math.min(MOST_LINES, yard.cells / width);
            own = v;
            start = moment;
            from = a;
            to = b;
            parking = yard.parkingCell(v);
            markGround();
            int steps = spread();
            if (steps == NONE) {
                return false;
            }
            keepWhatLeadsHome(steps);
            followFirst(steps, fleet[v].route);
            return true;
        }

        private void markGround() {
            Arrays.fill(open, 0);
            for (int c = 0; c < map.cells; c++) {
                if (map.kindOf(c) == FLOOR || c == from || c == to || c == parking) {
                    markAllStages(open, c);
                }
            }
            Arrays.fill(turns, 0);
            mark(turns, 0, EMPTY, from);
            mark(turns, 0, LOADED, to);
        }

        private int spread() {
            clearStep(0);
            mark(reached, 0, EMPTY, parking);
            markHeld(start);
            for (int step = 0; step < MOST_STEPS; step++) {
                long[] old = heldBefore;
                heldBefore = heldAfter;
                heldAfter = old;
                markHeld(start + step + 1);
                dropEntered(step);
                spreadStep(step);
                if (isReached(step + 1, DONE, parking)) {
                    return step + 1;
                }
            }
            return NONE;
        }

        private void markHeld(int moment) {
            Arrays.fill(heldAfter, 0);
            for (int v = 0; v < map.parkingCount && v < accounts.length; v++) {
                if (v != own) {
                    markAllStages(heldAfter, accounts[v].route.cellAt(moment));
                }
            }
        }

        // Nothing may go on from a cell that another vehicle has at the step's second moment.
        private void dropEntered(int step) {
            int now = step * MOST_LINES;
            for (int line = 0; line < lines; line++) {
                reached[now + line] &= ~heldAfter[line];
            }
        }

        private void spreadStep(int step) {
            int now = step * MOST_LINES;
            int next = now + MOST_LINES;
            for (int line = 0; line < lines; line++) {
                long here = reached[now + line];
                long stays = here & ~turns[line];
                long turned = (here & turns[line]) << STAGE_BITS;
                long free = open[line] & ~heldBefore[line] & ~heldAfter[line];
                reached[next + line] = free & (stays | turned | beside(now, line));
            }
        }

        private void keepWhatLeadsHome(int steps) {
            clearStep(steps);
            mark(reached, steps, DONE, parking);
            for (int step = steps - 1; step >= 0; step--) {
                keepStep(step);
            }
        }

        private void keepStep(int step) {
            int now = step * MOST_LINES;
            int next = now + MOST_LINES;
            for (int line = 0; line < lines; line++) {
                long then = reached[next + line];
                long stays = then & ~turns[line];
                long turning = then >>> STAGE_BITS & turns[line];
                reached[now + line] &= stays | turning | beside(next, line);
            }
        }

        private void followFirst(int steps, Route route) {
            route.begin(parking, start);
            int c = parking;
            int stage = EMPTY;
            for (int step = 1; step <= steps; step++) {
                boolean turning = stage == EMPTY && c == from || stage == LOADED && c == to;
                int stageOfStay = turning ? stage + 1 : stage;
                if (!isReached(step, stageOfStay, c)) {
                    c = firstWayOn(step, stage, c);
                    route.addMove(c);
                } else if (turning) {
                    stage = stageOfStay;
                    route.addTurn(c, stage);
                } else {
                    route.addWait(c);
                }
            }
        }

        private int firstWayOn(int step, int stage, int c) {
            for (int side = 0; side < SIDES; side++) {
                int next = map.neighbour(c, side);
                if (isReached(step, stage, next)) {
                    return next;
                }
            }
            return c;
        }

        private long beside(int row, int line) {
            long here = reached[row + line];
            long above = line > 0 ? reached[row + line - 1] : 0;
            long below = line + 1 < lines ? reached[row + line + 1] : 0;
            return here << 1 | here >>> 1 | above | below;
        }

        private void clearStep(int step) {
            int first = step * MOST_LINES;
            for (int i = 0; i < MOST_LINES && first + i < reached.length; i++) {
                reached[first + i] = 0;
            }
        }

        private void markAllStages(long[] set, int c) {
            for (int stage = 0; stage < STAGES; stage++) {
                mark(set, 0, stage, c);
            }
        }

        private void mark(long[] set, int step, int stage, int c) {
            if (c < 0 || width <= 0) {
                return;
            }
            int at = step * MOST_LINES + c / width;
            if (at >= 0 && at < set.length) {
                set[at] |= 1L << stage * STAGE_BITS + c % width;
            }
        }

        private boolean isReached(int step, int stage, int c) {
            if (c < 0 || width <= 0) {
                return false;
            }
            int at = step * MOST_LINES + c / width;
            if (at < 0 || at >= reached.length) {
                return false;
            }
            return (reached[at] >>> stage * STAGE_BITS + c % width & 1) != 0;
        }
    }
}
