import java.util.Random;

/**
 * Long runs on many maps, with every answer held against PlainYard. An object is asked far more
 * than 512 times here: the class counts no calls, and all its state is looked at.
 */
public final class ModelTest {
    private static final Check CHECK = new Check("ModelTest");

    public static void main(String[] args) {
        int seeds = args.length > 0 ? Integer.parseInt(args[0]) : 150;
        for (int seed = 0; seed < seeds && CHECK.allRight(); seed++) {
            yardRun(seed);
        }
        for (int seed = 0; seed < 20 * seeds && CHECK.allRight(); seed++) {
            textRun(seed);
        }
        CHECK.end();
    }

    private static void yardRun(int seed) {
        Random random = new Random(seed);
        FleetYard yard = new FleetYard();
        PlainYard plain = new PlainYard();
        String text = Maps.sound(random);
        readBoth(yard, plain, text, "seed " + seed);
        setFates(yard, plain, random, seed);
        int calls = 20 + random.nextInt(60);
        for (int i = 0; i < calls && CHECK.allRight(); i++) {
            String at = "seed " + seed + " call " + i + " ";
            step(yard, plain, random, at);
            compare(yard, plain, random, at);
        }
        if (!CHECK.allRight()) {
            System.out.println(text);
        }
    }

    private static void setFates(FleetYard yard, PlainYard plain, Random random, int seed) {
        int n = 1 + random.nextInt(64);
        CHECK.due("fates(" + n + ")", yard.fates(n), plain.fates(n));
        int losses = random.nextInt(5);
        for (int i = 0; i < n; i++) {
            int f = random.nextInt(4) < losses ? random.nextInt(16) : random.nextInt(8) * 2;
            f = seed % 3 == 0 ? 0 : f;
            CHECK.due("fate(" + i + ", " + f + ")", yard.fate(i, f), plain.fate(i, f));
        }
    }

    private static void step(FleetYard yard, PlainYard plain, Random random, String at) {
        int kind = random.nextInt(20);
        if (kind < 8) {
            int a = random.nextInt(12) - 1;
            int b = random.nextInt(12) - 1;
            int stations = plain.stations.size();
            if (stations > 1 && random.nextInt(8) != 0) {
                a = random.nextInt(stations);
                b = random.nextInt(stations);
            }
            CHECK.due(at + "task(" + a + ", " + b + ")", yard.task(a, b), plain.task(a, b));
        } else if (kind < 18) {
            int n = random.nextInt(6) == 0 ? random.nextInt(54) - 1 : 1 + random.nextInt(8);
            CHECK.due(at + "run(" + n + ")", yard.run(n), plain.run(n));
        } else if (kind == 18) {
            int i = random.nextInt(66) - 1;
            int f = random.nextInt(18) - 1;
            CHECK.due(at + "fate(" + i + ", " + f + ")", yard.fate(i, f), plain.fate(i, f));
        } else if (random.nextInt(10) == 0) {
            readBoth(yard, plain, random.nextBoolean() ? Maps.sound(random) : Maps.wild(random), at);
        }
    }

    private static void textRun(int seed) {
        Random random = new Random(seed);
        FleetYard yard = new FleetYard();
        PlainYard plain = new PlainYard();
        for (int i = 0; i < 6 && CHECK.allRight(); i++) {
            String text = Maps.wild(random);
            String at = "text seed " + seed + " no. " + i + " ";
            readBoth(yard, plain, text, at);
            CHECK.due(at + "count(0)", yard.count(0), plain.count(0));
            CHECK.due(at + "count(1)", yard.count(1), plain.count(1));
            CHECK.due(at + "count(2)", yard.count(2), plain.count(2));
            CHECK.due(at + "count(3)", yard.count(3), plain.count(3));
            if (!CHECK.allRight()) {
                System.out.println(text);
            }
        }
    }

    private static void readBoth(FleetYard yard, PlainYard plain, String text, String at) {
        for (int i = 0; i < text.length(); i += 20) {
            int[] w = new int[5];
            for (int j = 0; j < 5; j++) {
                w[j] = Check.word(text, i + 4 * j);
            }
            CHECK.due(at + "feed", yard.feed(w[0], w[1], w[2], w[3], w[4]), plain.feed(w));
        }
        int tooMuch = (20 - text.length() % 20) % 20;
        CHECK.due(at + "back", yard.back(tooMuch), plain.back(tooMuch));
        CHECK.due(at + "read()", yard.read(), plain.read());
        CHECK.due(at + "place()", yard.place(), plain.place());
    }

    private static void compare(FleetYard yard, PlainYard plain, Random random, String at) {
        for (int what = -1; what <= 13; what++) {
            CHECK.due(at + "count(" + what + ")", yard.count(what), plain.count(what));
        }
        CHECK.due(at + "place()", yard.place(), plain.place());
        for (int c = -1; c <= plain.signs.length(); c++) {
            for (int what = -1; what <= 9; what++) {
                CHECK.due(at + "cell(" + c + ", " + what + ")", yard.cell(c, what), plain.cell(c, what));
            }
        }
        for (int v = -1; v <= 6; v++) {
            for (int what = -1; what <= 14; what++) {
                CHECK.due(at + "vehicle(" + v + ", " + what + ")", yard.vehicle(v, what),
                        plain.vehicle(v, what));
            }
            compareTrip(yard, plain, v, at);
        }
        for (int task = -1; task <= plain.jobs.size(); task++) {
            for (int what = -1; what <= 5; what++) {
                CHECK.due(at + "told(" + task + ", " + what + ")", yard.told(task, what),
                        plain.told(task, what));
            }
        }
        noTwoInOneCell(yard, plain, at);
    }

    private static void compareTrip(FleetYard yard, PlainYard plain, int v, String at) {
        int last = plain.plan(v, 0, 1);
        for (int t = -1; t <= last + 2; t++) {
            CHECK.due(at + "trip(" + v + ", " + t + ")", yard.trip(v, t), plain.trip(v, t));
        }
        int acts = plain.vehicle(v, 12);
        for (int i = -1; i <= acts + 1; i++) {
            for (int what = -1; what <= 4; what++) {
                CHECK.due(at + "plan(" + v + ", " + i + ", " + what + ")", yard.plan(v, i, what),
                        plain.plan(v, i, what));
            }
        }
    }

    private static void noTwoInOneCell(FleetYard yard, PlainYard plain, String at) {
        for (int v = 0; v < plain.cars.size(); v++) {
            CHECK.due(at + "the vehicle in the cell of vehicle " + v,
                    yard.cell(yard.vehicle(v, 0), 2), v);
        }
    }
}
