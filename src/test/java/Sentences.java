import java.io.IOException;
import java.nio.file.Files;
import java.nio.file.Path;
import java.nio.file.Paths;
import java.util.ArrayList;
import java.util.LinkedHashSet;
import java.util.List;
import java.util.Set;

/**
 * Runs of calls, each under the sentence of the document that it tests. of() names the sentence by some words of it,
 * test() makes a run on a new object. end() looks whether each sentence of a section has been tested.
 */
final class Sentences {
    static final String LOW = "-2147483648";
    static final String HIGH = "2147483647";

    private static final List<String> DOCUMENT = lines();
    private static final Set<String> tested = new LinkedHashSet<>();
    private static String section = "";
    private static String words = "";
    private static String sentence;

    private Sentences() {
    }

    /** The tests that follow are those of the one sentence of the section that has these words. */
    static void of(String inSection, String itsWords) {
        section = inSection;
        words = itsWords;
        sentence = itsWords;
        if (DOCUMENT.isEmpty()) {
            return;
        }
        List<String> having = new ArrayList<>();
        for (String one : sentences(inSection)) {
            if (one.contains(itsWords)) {
                having.add(one);
            }
        }
        Runs.due("sentences of \"" + section + "\" that have \"" + words + "\"", "" + having.size(), "1");
        if (!having.isEmpty()) {
            sentence = having.get(0);
        }
    }

    static void of(int promise, String itsWords) {
        of("Promise " + promise, itsWords);
    }

    static void test(String boundary, String... rows) {
        test(boundary, new Caller(new Pathparade()), rows);
    }

    static void test(String boundary, Caller caller, String... rows) {
        tested.add(section + ": " + sentence);
        Runs.run(section + ", \"" + words + "\", " + boundary, caller, rows);
    }

    /** The call is refused with each of the numbers in the place of "?", each time on a new object. */
    static void refuses(String setup, String call, String... numbers) {
        for (String number : numbers) {
            String made = call.replace("?", number);
            test(made, setup, made + " : IAE");
        }
    }

    /** Ends the program; each sentence of the sections must have been tested. */
    static void end(String name, String... sections) {
        for (String inSection : sections) {
            Runs.due("a section " + inSection, "" + (DOCUMENT.isEmpty() || !sentences(inSection).isEmpty()), "true");
            for (String one : sentences(inSection)) {
                boolean isTested = tested.contains(inSection + ": " + one);
                Runs.due("test of \"" + one + "\" in " + inSection, "" + isTested, "true");
            }
        }
        Runs.end(name);
    }

    static void end(String name, int firstPromise, int lastPromise) {
        String[] sections = new String[lastPromise - firstPromise + 1];
        for (int i = 0; i < sections.length; i++) {
            sections[i] = "Promise " + (firstPromise + i);
        }
        end(name, sections);
    }

    /** Rows that add edges with the numbers from first to last, all from one node to another. */
    static String edges(int from, int to, int length, int first, int last) {
        StringBuilder rows = new StringBuilder();
        for (int edge = first; edge <= last; edge++) {
            rows.append(edge == first ? "" : "; ");
            rows.append("addEdge " + from + " " + to + " " + length + " : " + edge);
        }
        return rows.toString();
    }

    /** What stands under a heading, apart in sentences and in the lines of arguments, returns and exceptions. */
    private static List<String> sentences(String heading) {
        List<String> found = new ArrayList<>();
        boolean inside = false;
        for (String line : DOCUMENT) {
            if (line.startsWith("## ")) {
                inside = line.equals("## " + heading) || line.startsWith("## " + heading + ":");
            } else if (inside && !line.isEmpty() && !line.startsWith("Ahead of the calls")) {
                String text = line.replaceAll("^`[^`]*`: ", "").replaceAll("^- ", "").replace("`", "");
                addSentences(text, found);
            }
        }
        return found;
    }

    private static void addSentences(String text, List<String> found) {
        for (String one : text.split("(?<=[.]) ")) {
            // "Drawing." and "Turns." are headings.
            if (one.contains(" ")) {
                found.add(one);
            }
        }
    }

    /** Without the document the calls are tested all the same, but not whether each sentence has been. */
    private static List<String> lines() {
        Path document = Paths.get("../shared/DOC.md");
        if (!Files.isReadable(document)) {
            System.out.println("no ../shared/DOC.md: its sentences are not looked at");
            return new ArrayList<>();
        }
        try {
            return Files.readAllLines(document);
        } catch (IOException e) {
            throw new IllegalStateException(e);
        }
    }
}
