import java.io.IOException;
import java.nio.file.Files;
import java.nio.file.Path;
import java.util.regex.Matcher;
import java.util.regex.Pattern;

/** What of LANGUAGE.md can be seen in the text of the class alone. */
public final class LanguageTest {
    private static final Check CHECK = new Check("LanguageTest");
    private static final Path PROGRAM = Path.of("src/main/java/FleetYard.java");
    private static final int MOST_CLASSES = 12;
    private static final int MOST_LINES_OF_A_METHOD = 60;
    private static final int MOST_PARAMETERS = 7;

    public static void main(String[] args) throws IOException {
        String code = Files.readString(PROGRAM)
                .replaceAll("(?s)/\\*.*?\\*/", "")
                .replaceAll("//[^\n]*", "");
        CHECK.about("Rules 2 and 6: words that are not used");
        none(code, "\\b(throw|throws|try|catch|finally|synchronized|assert|package|native|volatile)\\b");
        none(code, "->|::");
        CHECK.about("Rule 4: the library");
        none(code, "Exact\\(|\\bSystem\\.(?!arraycopy)|\\bThread\\b|\\bRandom\\b|java\\.(?!util\\.)");
        none(code, "import (?!java\\.util\\.(ArrayList|Arrays|Iterator|List);)");
        CHECK.about("Rule 5: no static initialiser, static fields are final");
        none(code, "static\\s*\\{");
        none(code, "static (?!final|int \\w+\\(|boolean \\w+\\()");
        CHECK.about("Rule 9: every loop has an end");
        none(code, "while \\(true\\)|for \\([^;]*;\\s*;");
        CHECK.about("Rule 11: how much of each");
        CHECK.due("classes", count(code, "\\bclass \\w+ ") <= MOST_CLASSES, true);
        parameters(code);
        lengths(code);
        CHECK.end();
    }

    private static int count(String code, String pattern) {
        Matcher matcher = Pattern.compile(pattern).matcher(code);
        int n = 0;
        while (matcher.find()) {
            n++;
        }
        return n;
    }

    private static void none(String code, String pattern) {
        CHECK.due("places of " + pattern, count(code, pattern), 0);
    }

    private static void parameters(String code) {
        Matcher matcher = Pattern.compile("\\w+ \\w+\\(([^()]*)\\) \\{").matcher(code);
        while (matcher.find()) {
            int n = matcher.group(1).isBlank() ? 0 : matcher.group(1).split(",").length;
            CHECK.due(matcher.group() + " has few parameters", n <= MOST_PARAMETERS, true);
        }
    }

    // A method ends at the brace that stands as far in as its first line does.
    private static void lengths(String code) {
        Matcher matcher = Pattern.compile("(?m)^( +)[\\w\\[\\] ]+\\([^;{]*\\) \\{\n").matcher(code);
        while (matcher.find()) {
            int end = code.indexOf("\n" + matcher.group(1) + "}", matcher.end() - 1);
            int lines = count(code.substring(matcher.end(), Math.max(end, matcher.end())), "\n");
            CHECK.due(matcher.group().strip() + " is short", lines <= MOST_LINES_OF_A_METHOD, true);
        }
    }
}
