import java.util.Random;

/** Texts for maps: sound ones of several shapes, and wild ones with faults of every kind. */
final class Maps {
    private static final String MAZE = """
            .......#...#...#
            .#####...#.#.#..
            ..#...#.##..#.#.
            #.#.#..#..#...#.
            ..#..#..#..##...
            .#.#..#..#..####
            ....#..#..#...#.
            ###..#..#..##...
            ...#..#..#...##.
            .#...###..##..#.
            .####...#...#...
            ..#...#..#...###
            #.#.##.#..##...#
            ..#....#..####..
            .#.###.##.#...#.
            .......#....#...
            """;

    private Maps() {
    }

    /** The maze with ENDPOINTS in it, as in "P57 S28": a PARKING in CELL 57, a STATION in CELL 28. */
    static String maze(String endpoints) {
        StringBuilder text = new StringBuilder(MAZE);
        int perLine = MAZE.indexOf('\n');
        for (String endpoint : endpoints.split(" ")) {
            int c = Integer.parseInt(endpoint.substring(1));
            text.setCharAt(c + c / perLine, endpoint.charAt(0));
        }
        return text.toString();
    }

    static String sound(Random random) {
        for (int i = 0; i < 10000; i++) {
            String text = shaped(random);
            if (text.length() <= 400 && PlainYard.faultOf(text) == null) {
                return text;
            }
        }
        return "P..S\n...S\n";
    }

    private static String shaped(Random random) {
        char[][] field = switch (random.nextInt(6)) {
            case 0, 1 -> hall(random);
            case 2 -> lane(random);
            case 3 -> snake(random);
            case 4 -> maze(random);
            default -> scatter(random);
        };
        StringBuilder text = new StringBuilder();
        for (char[] line : field) {
            text.append(line).append('\n');
        }
        if (random.nextBoolean()) {
            text.setLength(text.length() - 1);
        }
        return text.toString();
    }

    private static char[][] field(int height, int width, char sign) {
        char[][] field = new char[height][width];
        for (char[] line : field) {
            java.util.Arrays.fill(line, sign);
        }
        return field;
    }

    private static void strew(char[][] field, Random random, char sign, int n) {
        for (int i = 0; i < n; i++) {
            field[random.nextInt(field.length)][random.nextInt(field[0].length)] = sign;
        }
    }

    private static char[][] scatter(Random random) {
        char[][] field = field(1 + random.nextInt(9), 1 + random.nextInt(9), '.');
        strew(field, random, '#', random.nextInt(8));
        strew(field, random, 'S', random.nextInt(6));
        strew(field, random, 'P', 1 + random.nextInt(4));
        return field;
    }

    // Floor within, endpoints along the rim: many trips cross one another.
    private static char[][] hall(Random random) {
        int height = 3 + random.nextInt(14);
        int width = 3 + random.nextInt(14);
        char[][] field = field(height, width, '#');
        for (int y = 1; y < height - 1; y++) {
            for (int x = 1; x < width - 1; x++) {
                field[y][x] = random.nextInt(9) == 0 ? '#' : '.';
            }
        }
        int stations = 2 + random.nextInt(9);
        int parkings = 1 + random.nextInt(6);
        for (int i = 0; i < stations + parkings; i++) {
            char sign = i < stations ? 'S' : 'P';
            int along = random.nextInt(2) == 0 ? 0 : 1;
            if (random.nextBoolean()) {
                field[along * (height - 1)][1 + random.nextInt(width - 2)] = sign;
            } else {
                field[1 + random.nextInt(height - 2)][along * (width - 1)] = sign;
            }
        }
        return field;
    }

    // One lane with endpoints at both sides: vehicles must wait for one another.
    private static char[][] lane(Random random) {
        int width = 2 + random.nextInt(15);
        char[][] field = field(3, width, '#');
        java.util.Arrays.fill(field[1], '.');
        int stations = 2 + random.nextInt(4);
        int parkings = 1 + random.nextInt(6);
        for (int i = 0; i < stations + parkings; i++) {
            field[random.nextInt(2) * 2][random.nextInt(width)] = i < stations ? 'S' : 'P';
        }
        return field;
    }

    // Ways so long that a trip may need more than the 300 steps, alone or behind another one.
    private static char[][] maze(Random random) {
        String[] lines = MAZE.split("\n");
        char[][] field = new char[lines.length][];
        for (int y = 0; y < lines.length; y++) {
            field[y] = lines[y].toCharArray();
        }
        strew(field, random, 'S', 2 + random.nextInt(2));
        strew(field, random, 'P', 1 + random.nextInt(2));
        return field;
    }

    // Ends beside a long way on which none can pass another.
    private static char[][] snake(Random random) {
        int height = 5 + random.nextInt(6) * 2;
        int width = 10 + random.nextInt(7);
        char[][] field = field(height, width, '.');
        for (int y = 1; y < height; y += 2) {
            java.util.Arrays.fill(field[y], '#');
            field[y][y % 4 == 1 ? width - 1 : 0] = '.';
        }
        int fleet = 1 + random.nextInt(3);
        for (int i = 0; i < fleet; i++) {
            field[random.nextInt(3) == 0 ? 1 : 0][i] = 'P';
        }
        for (int y = 1; y < height; y += 2) {
            if (random.nextInt(3) == 0) {
                field[y][1 + random.nextInt(width - 2)] = 'S';
            }
        }
        field[height - 1][height % 4 == 1 ? width - 1 : 0] = 'S';
        return field;
    }

    static String wild(Random random) {
        StringBuilder text = new StringBuilder();
        int height = random.nextInt(4) == 0 ? 15 + random.nextInt(4) : random.nextInt(5);
        int width = random.nextInt(4) == 0 ? 15 + random.nextInt(4) : random.nextInt(5);
        String signs = random.nextInt(3) == 0 ? "....#SP" : ".......................#SP";
        for (int y = 0; y < height; y++) {
            int length = random.nextInt(25) == 0 ? width + random.nextInt(3) - 1 : width;
            for (int x = 0; x < length; x++) {
                boolean wrong = random.nextInt(300) == 0;
                text.append(wrong ? (char) random.nextInt(256)
                        : signs.charAt(random.nextInt(signs.length())));
            }
            if (y < height - 1 || random.nextBoolean()) {
                text.append('\n');
            }
        }
        text.setLength(Math.min(text.length(), 400));
        return text.toString();
    }
}
