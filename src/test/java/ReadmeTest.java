import java.io.File;
import java.nio.file.Files;
import java.nio.file.Path;
import java.util.HashMap;
import java.util.List;
import java.util.Map;
import java.util.regex.Matcher;
import java.util.regex.Pattern;

/** What README.md shows is what the class answers, and it says what one who uses the class must know. */
public final class ReadmeTest {
    private static final Pattern MADE = Pattern.compile("BedsArePlaces x = new BedsArePlaces\\(\\);");
    private static final Pattern CALL = Pattern.compile("(?:int (\\w+) = )?x\\.(\\w+\\(.*?\\)); +// (-?\\d+)(?: \\((\\w+)\\))?: \\S.*");
    private static final Pattern CONSTANT = Pattern.compile("\\| `([A-Z]+)` \\| (-\\d+) \\| .+ \\|");
    private static final Pattern TEST = Pattern.compile("\\| `(\\w+Test)` \\| .+ \\|");
    private static final List<String> PARTS = List.of("## How to use it", "### An object", "### Calls and answers", "### Refused calls", "### For how many calls", "## How to run its tests");
    private static final Due d = new Due("ReadmeTest");

    public static void main(String[] args) throws Exception {
        List<String> lines = Files.readAllLines(Path.of("README.md"));
        for (String part : PARTS) {
            d.holds("there is a part " + part, lines.contains(part));
        }
        examples(lines);
        constants(lines);
        tests(lines);
        String page = String.join(" ", lines);
        d.holds("it says for how many calls", page.contains("at most 512 calls") && Document.has("What it is", "at most 512 calls"));
        d.holds("it says how the tests are run", lines.contains(".ci/run") && new File(".ci/run").canExecute());
        d.end();
    }

    /** Each example makes an object of its own; each line in it is a call, with what it answers. */
    private static void examples(List<String> lines) {
        Run x = null;
        boolean inside = false;
        Map<String, Integer> names = new HashMap<>();
        int calls = 0;
        for (String line : lines) {
            Matcher call = CALL.matcher(line);
            if (line.startsWith("```")) {
                inside = line.equals("```java");
                x = null;
                names.clear();
            } else if (inside && MADE.matcher(line).matches()) {
                x = new Run(d);
            } else if (inside) {
                d.holds("an example goes on with a call: " + line, call.matches() && x != null);
                if (call.matches() && x != null) {
                    answers(x, call, names);
                    calls++;
                }
            }
        }
        d.holds("calls are shown: " + calls, calls >= 50);
    }

    private static void answers(Run x, Matcher call, Map<String, Integer> names) {
        String its = call.group(2).replace("BedsArePlaces.", "");
        for (Map.Entry<String, Integer> name : names.entrySet()) {
            its = its.replaceAll("\\b" + name.getKey() + "\\b(?!\\()", String.valueOf(name.getValue()));
        }
        int shown = Integer.parseInt(call.group(3));
        x.due(its, shown);
        if (call.group(4) != null) {
            d.due("the number of " + call.group(4), shown, constant(call.group(4)));
        }
        if (call.group(1) != null) {
            names.put(call.group(1), shown);
        }
    }

    private static int constant(String name) {
        try {
            return BedsArePlaces.class.getField(name).getInt(null);
        } catch (ReflectiveOperationException missing) {
            return 0;
        }
    }

    private static void constants(List<String> lines) {
        int named = 0;
        for (String line : lines) {
            Matcher m = CONSTANT.matcher(line);
            if (m.matches()) {
                d.due("the number of " + m.group(1), Integer.parseInt(m.group(2)), constant(m.group(1)));
                named++;
            }
        }
        d.due("constants that are named", named, BedsArePlaces.class.getFields().length);
    }

    private static void tests(List<String> lines) {
        int named = 0;
        for (String line : lines) {
            Matcher m = TEST.matcher(line);
            if (m.matches()) {
                d.holds(m.group(1) + " is there", new File("src/test/java/" + m.group(1) + ".java").isFile());
                named++;
            }
        }
        String[] files = new File("src/test/java").list((folder, name) -> name.endsWith("Test.java"));
        d.due("tests that are named", named, files == null ? 0 : files.length);
    }
}
