import java.io.IOException;
import java.nio.file.Files;
import java.nio.file.Paths;
import java.util.List;
import java.util.regex.Pattern;

/** What can be seen of the rules of LANGUAGE.md by looking at the program's text line by line. */
final class LanguageTest {
    private static final String[] RULED_OUT = {
        "->", "::", "\\btry\\b", "\\bcatch\\b", "\\bfinally\\b", "\\bsynchronized\\b", "\\bassert\\b", "\\bpackage\\b",
        "\\binstanceof\\b", "\\bfloat\\b", "\\bdouble\\b", "\\bSystem\\b", "\\bThread\\b", "\\bRandom\\b", "Exact\\(",
        "\\bstatic \\{", "\" \\+|\\+ \"", "[^ -~]", ".{121,}"
    };

    /** Rows are made with the object alone, so that a run of calls stays within its room. */
    private static final String MADE = "private final .* = new |throw new |^        \\w+ = new \\w+\\(made\\);$|"
        + "Network made = new Network\\(\\);|this\\.distances = new Distances\\(network\\);";

    public static void main(String[] args) throws IOException {
        List<String> lines = Files.readAllLines(Paths.get("src/main/java/Pathparade.java"));
        for (int i = 0; i < lines.size(); i++) {
            String line = lines.get(i);
            String where = "line " + (i + 1) + ": " + line.trim();
            String code = line.trim().startsWith("*") || line.trim().startsWith("/") ? "" : line;
            for (String word : RULED_OUT) {
                Runs.due(where + " has " + word, found(word, code), "false");
            }
            if (code.startsWith("import")) {
                Runs.due(where, found("^import java\\.util\\.(Arrays|NoSuchElementException);$", code), "true");
            }
            if (found("\\bnew\\b", code).equals("true")) {
                Runs.due(where + " makes something", found(MADE, code), "true");
            }
            Runs.due(where + " reads a row", found("\\w\\[[^\\]]", withoutGuards(code)), "false");
        }
        Runs.end("LanguageTest");
    }

    /** Makings of rows, and the lines of at() and put(), which look at the place. */
    private static String withoutGuards(String code) {
        return code.replaceAll("new \\w+\\[.*\\];", "").replaceAll("place >= 0 && place < row.length \\? row\\[place\\]", "")
            .replaceAll("^            row\\[place\\] = value;$", "");
    }

    private static String found(String pattern, String text) {
        return String.valueOf(Pattern.compile(pattern).matcher(text).find());
    }
}
