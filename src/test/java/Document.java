import java.io.IOException;
import java.io.UncheckedIOException;
import java.nio.file.Files;
import java.nio.file.Path;
import java.util.ArrayList;
import java.util.LinkedHashMap;
import java.util.LinkedHashSet;
import java.util.List;
import java.util.Map;
import java.util.Set;
import java.util.regex.Matcher;
import java.util.regex.Pattern;

/** ../shared/DOC.md by its parts, so that a test can name the words that it holds, and they do stand there. */
final class Document {
    private static final Map<String, String> PARTS = parts();

    private Document() { }

    /** "Terms", "Section 1" .. "Section 5", "Promise 1" .. "Promise 46", each with its words in one line. */
    private static Map<String, String> parts() {
        Map<String, String> parts = new LinkedHashMap<>();
        String part = "";
        for (String line : lines()) {
            Matcher section = Pattern.compile("=+ (\\d) .*").matcher(line);
            Matcher heading = Pattern.compile("## (Promise \\d+|[\\w ]+).*").matcher(line);
            if (section.matches()) {
                part = "Section " + section.group(1);
            } else if (heading.matches()) {
                part = heading.group(1);
            }
            parts.merge(part, line.trim(), (a, b) -> (a + " " + b).trim());
        }
        return parts;
    }

    private static List<String> lines() {
        try {
            return Files.readAllLines(Path.of("../shared/DOC.md"));
        } catch (IOException missing) {
            throw new UncheckedIOException(missing);
        }
    }

    static boolean has(String part, String words) {
        return PARTS.getOrDefault(part, "").contains(words);
    }

    static List<String> promises() {
        List<String> all = new ArrayList<>();
        for (String part : PARTS.keySet()) {
            if (part.startsWith("Promise ")) {
                all.add(part);
            }
        }
        return all;
    }

    /** The name of the method that a promise is about; none for the constructor's. */
    static String methodOf(String promise) {
        Matcher m = Pattern.compile("`int (\\w+)\\(").matcher(PARTS.getOrDefault(promise, ""));
        return m.find() ? m.group(1) : "";
    }

    /** The refusals and findings that a promise names, as BAD; FULL: why; .. */
    static Set<String> refusalsOf(String promise) {
        Set<String> named = new LinkedHashSet<>();
        String words = PARTS.getOrDefault(promise, "").replace("NONE: NO NUMBER", "");
        Matcher m = Pattern.compile("(?<=[.;] )(BAD|NO|FULL|NONE|NOTHING|KIND|INDEX|SIZE)(?=[.;:])").matcher(words);
        while (m.find()) {
            named.add(m.group(1));
        }
        return named;
    }
}
