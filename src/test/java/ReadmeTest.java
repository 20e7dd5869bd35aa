import java.io.IOException;
import java.lang.reflect.Method;
import java.lang.reflect.Modifier;
import java.nio.file.Files;
import java.nio.file.Path;
import java.util.Arrays;
import java.util.regex.Matcher;
import java.util.regex.Pattern;
import java.util.stream.Collectors;

/** That README.md names each call of the face, and that its example answers what it says. */
public final class ReadmeTest {
    private static final Check CHECK = new Check("ReadmeTest");
    private static final Path README = Path.of("README.md");
    // yard.cell(3, 0);      // 2: cell 3 is a station
    private static final Pattern CALL =
            Pattern.compile("yard\\.(\\w+)\\(([^)]*)\\);\\s*// (true|false|-?\\d+): \\S.*");

    public static void main(String[] args) throws IOException, ReflectiveOperationException {
        String text = Files.readString(README);
        namesEachCall(text);
        exampleIsTrue(text);
        howTestsAreRun(text);
        CHECK.end();
    }

    private static void namesEachCall(String text) {
        CHECK.about("README: each method of the public face has a row of its own");
        CHECK.due("rows of FleetYard()", rowsOf(text, "FleetYard()"), 1);
        for (Method method : FleetYard.class.getDeclaredMethods()) {
            if (Modifier.isPublic(method.getModifiers())) {
                CHECK.due("rows of " + method.getName(), rowsBeginning(text, method.getName() + "("), 1);
            }
        }
    }

    private static int rowsOf(String text, String call) {
        return rowsBeginning(text, call + "`");
    }

    private static int rowsBeginning(String text, String words) {
        return (int) text.lines().filter(line -> line.startsWith("| `" + words)).count();
    }

    private static void exampleIsTrue(String text) throws ReflectiveOperationException {
        CHECK.about("README: a short example of calls with their answers");
        FleetYard yard = new FleetYard();
        int begin = text.indexOf("```java\nFleetYard yard = new FleetYard();\n");
        int end = text.indexOf("\n```\n", begin);
        CHECK.due("there is an example", begin >= 0 && end > begin, true);
        String[] lines = text.substring(begin, end).split("\n");
        for (int i = 2; i < lines.length; i++) {
            Matcher call = CALL.matcher(lines[i]);
            CHECK.due(lines[i] + " is a call with its answer", call.matches(), true);
            String got = String.valueOf(answer(yard, call.group(1), call.group(2)));
            CHECK.due(lines[i] + " (answered " + got + ")", got.equals(call.group(3)), true);
        }
    }

    private static Object answer(FleetYard yard, String name, String list)
            throws ReflectiveOperationException {
        Object[] values = list.isEmpty() ? new Object[0]
                : Arrays.stream(list.split(", ")).map(Integer::decode).toArray();
        Class<?>[] types = new Class<?>[values.length];
        Arrays.fill(types, int.class);
        return FleetYard.class.getMethod(name, types).invoke(yard, values);
    }

    private static void howTestsAreRun(String text) throws IOException {
        CHECK.about("README: how its tests are run, and what each of them is for");
        CHECK.due("names .ci/run", text.contains("\n    .ci/run\n"), true);
        try (var files = Files.list(Path.of("src/test/java"))) {
            String tests = files.map(file -> file.getFileName().toString())
                    .filter(name -> name.endsWith("Test.java"))
                    .collect(Collectors.joining(" "));
            for (String name : tests.replace(".java", "").split(" ")) {
                CHECK.due("names " + name, text.contains("`" + name + "`"), true);
            }
        }
    }
}
