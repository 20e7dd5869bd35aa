import java.util.Random;

/**
 * Runs of 512 calls each on many maps, with every answer held against PlainYard. A number behind
 * the class name makes that many runs.
 */
public final class ModelTest {
    private static final Check CHECK = new Check("ModelTest");
    private static final int RUNS = 1500;
    private static final int TEXTS_A_RUN = 3;
    // A step may read a map: twenty feeds, back, read and place.
    private static final int CALLS_OF_A_STEP = 23;

    public static void main(String[] args) {
        int runs = args.length > 0 ? Integer.parseInt(args[0]) : RUNS;
        for (int seed = 0; seed < runs && CHECK.allRight(); seed++) {
            yardRun(seed);
        }
        for (int seed = 0; seed < runs && CHECK.allRight(); seed++) {
            textRun(seed);
        }
        CHECK.end();
    }

    private static void yardRun(int seed) {
        CHECK.about("seed " + seed);
        Random random = new Random(seed);
        Yard yard = new Yard();
        PlainYard plain = new PlainYard();
        String text = Maps.sound(random);
        readBoth(yard, plain, text);
        setFates(yard, plain, random, seed);
        while (yard.callsLeft() > CALLS_OF_A_STEP + 2 && CHECK.allRight()) {
            step(yard, plain, random);
            int questions = random.nextInt(16);
            while (questions > 0 && yard.callsLeft() > CALLS_OF_A_STEP + 2) {
                ask(yard, plain, random);
                questions--;
            }
        }
        while (yard.callsLeft() > 1) {
            ask(yard, plain, random);
        }
        if (!CHECK.allRight()) {
            System.out.println(text);
        }
    }

    private static void setFates(Yard yard, PlainYard plain, Random random, int seed) {
        int n = 1 + random.nextInt(random.nextBoolean() ? 64 : 8);
        CHECK.due("fates(" + n + ")", yard.fates(n), plain.fates(n));
        int losses = random.nextInt(5);
        for (int i = 0; i < n && seed % 3 != 0; i++) {
            int f = random.nextInt(4) < losses ? random.nextInt(16) : random.nextInt(8) * 2;
            CHECK.due("fate(" + i + ", " + f + ")", yard.fate(i, f), plain.fate(i, f));
        }
    }

    private static void step(Yard yard, PlainYard plain, Random random) {
        int kind = random.nextInt(20);
        if (kind < 8) {
            int a = random.nextInt(12) - 1;
            int b = random.nextInt(12) - 1;
            int stations = plain.stations.size();
            if (stations > 1 && random.nextInt(8) != 0) {
                a = random.nextInt(stations);
                b = random.nextInt(stations);
            }
            CHECK.due("task(" + a + ", " + b + ")", yard.task(a, b), plain.task(a, b));
        } else if (kind < 18) {
            int n = random.nextInt(6) == 0 ? random.nextInt(54) - 1 : 1 + random.nextInt(8);
            CHECK.due("run(" + n + ")", yard.run(n), plain.run(n));
        } else if (kind == 18) {
            int i = random.nextInt(66) - 1;
            int f = random.nextInt(18) - 1;
            CHECK.due("fate(" + i + ", " + f + ")", yard.fate(i, f), plain.fate(i, f));
        } else if (random.nextInt(10) == 0) {
            readBoth(yard, plain, random.nextBoolean() ? Maps.sound(random) : Maps.wild(random));
        }
    }

    private static void textRun(int seed) {
        CHECK.about("text seed " + seed);
        Random random = new Random(seed);
        Yard yard = new Yard();
        PlainYard plain = new PlainYard();
        for (int i = 0; i < TEXTS_A_RUN && CHECK.allRight(); i++) {
            String text = Maps.wild(random);
            readBoth(yard, plain, text);
            for (int what = 0; what <= 3; what++) {
                CHECK.due("count(" + what + ")", yard.count(what), plain.count(what));
            }
            if (!CHECK.allRight()) {
                System.out.println(text);
            }
        }
    }

    private static void readBoth(Yard yard, PlainYard plain, String text) {
        for (int i = 0; i < text.length(); i += 20) {
            int[] w = new int[5];
            for (int j = 0; j < 5; j++) {
                w[j] = Yard.word(text, i + 4 * j);
            }
            CHECK.due("feed", yard.feed(w[0], w[1], w[2], w[3], w[4]), plain.feed(w));
        }
        int tooMuch = (20 - text.length() % 20) % 20;
        CHECK.due("back", yard.back(tooMuch), plain.back(tooMuch));
        CHECK.due("read()", yard.read(), plain.read());
        CHECK.due("place()", yard.place(), plain.place());
    }

    private static void ask(Yard yard, PlainYard plain, Random random) {
        int v = random.nextInt(3) == 0 ? random.nextInt(8) - 1 : random.nextInt(plain.cars.size());
        switch (random.nextInt(8)) {
            case 0 -> askCount(yard, plain, random.nextInt(15) - 1);
            case 1, 2 -> askCell(yard, plain, cellToAsk(plain, random), random.nextInt(11) - 1);
            case 3, 4 -> askVehicle(yard, plain, v, random.nextInt(16) - 1);
            case 5 -> askTrip(yard, plain, v, random);
            case 6 -> askTold(yard, plain, random);
            default -> {
                int there = v < 0 || v >= plain.cars.size() ? FleetYard.NONE : plain.cars.get(v).cell;
                CHECK.due("cell(" + there + ", 2)", yard.cell(there, 2), there < 0 ? FleetYard.NONE : v);
            }
        }
    }

    private static void askCount(Yard yard, PlainYard plain, int what) {
        CHECK.due("count(" + what + ")", yard.count(what), plain.count(what));
    }

    // Half of the questions are of a CELL that a PLAN goes to, for its WAITING.
    private static int cellToAsk(PlainYard plain, Random random) {
        PlainYard.Car car = plain.cars.get(random.nextInt(plain.cars.size()));
        if (random.nextBoolean() && !car.trip.isEmpty()) {
            return car.trip.get(random.nextInt(car.trip.size()));
        }
        return random.nextInt(plain.signs.length() + 2) - 1;
    }

    private static void askCell(Yard yard, PlainYard plain, int c, int what) {
        CHECK.due("cell(" + c + ", " + what + ")", yard.cell(c, what), plain.cell(c, what));
    }

    private static void askVehicle(Yard yard, PlainYard plain, int v, int what) {
        CHECK.due("vehicle(" + v + ", " + what + ")", yard.vehicle(v, what), plain.vehicle(v, what));
    }

    private static void askTrip(Yard yard, PlainYard plain, int v, Random random) {
        int first = Math.max(plain.plan(v, 0, 0), 0);
        int steps = Math.max(plain.plan(v, 0, 1), 0) - first;
        int i = random.nextInt(steps + 6) - 2;
        if (random.nextBoolean()) {
            CHECK.due("trip(" + v + ", " + (first + i) + ")", yard.trip(v, first + i),
                    plain.trip(v, first + i));
        } else {
            int what = random.nextInt(6) - 1;
            CHECK.due("plan(" + v + ", " + i + ", " + what + ")", yard.plan(v, i, what),
                    plain.plan(v, i, what));
        }
    }

    private static void askTold(Yard yard, PlainYard plain, Random random) {
        int task = random.nextInt(plain.jobs.size() + 2) - 1;
        int what = random.nextInt(7) - 1;
        CHECK.due("told(" + task + ", " + what + ")", yard.told(task, what), plain.told(task, what));
    }
}
