import java.io.IOException;
import java.lang.reflect.Method;
import java.lang.reflect.Modifier;
import java.nio.file.Files;
import java.nio.file.Paths;
import java.util.List;
import java.util.Set;
import java.util.TreeSet;
import java.util.regex.Matcher;
import java.util.regex.Pattern;

/** The example of README.md answers what it says, and shows each call of the face. */
final class ReadmeTest {
    private static final Pattern CALL = Pattern.compile("^network\\.(\\w+)\\(([^)]*)\\); *(?:// (?:throws )?(\\w+).*)?$");

    public static void main(String[] args) throws IOException {
        Caller caller = new Caller(new Pathparade());
        Set<String> shown = new TreeSet<>();
        for (String line : example()) {
            if (line.isEmpty() || line.startsWith("//") || line.equals("Pathparade network = new Pathparade();")) {
                continue;
            }
            Matcher call = CALL.matcher(line);
            boolean isCall = call.matches();
            Runs.due("a call in the line " + line, "" + isCall, "true");
            if (isCall) {
                shown.add(call.group(1));
                String due = call.group(3) == null ? "ok" : call.group(3);
                Runs.due(line, caller.answer(call.group(1) + " " + call.group(2).replace(",", "")), due);
            }
        }
        Runs.due("the calls that are shown", "" + shown, "" + calls());
        Runs.end("ReadmeTest");
    }

    private static List<String> example() throws IOException {
        List<String> lines = Files.readAllLines(Paths.get("README.md"));
        int start = lines.indexOf("```java") + 1;
        return lines.subList(start, start + lines.subList(start, lines.size()).indexOf("```"));
    }

    private static Set<String> calls() {
        Set<String> calls = new TreeSet<>();
        for (Method method : Pathparade.class.getDeclaredMethods()) {
            if (Modifier.isPublic(method.getModifiers())) {
                calls.add(method.getName());
            }
        }
        return calls;
    }
}
