import java.io.IOException;
import java.io.StringWriter;
import java.nio.charset.StandardCharsets;
import java.nio.file.Files;
import java.nio.file.Path;
import java.util.ArrayList;
import java.util.LinkedHashMap;
import java.util.List;
import java.util.Map;
import java.util.TreeSet;
import java.util.concurrent.Callable;
import java.util.concurrent.ExecutorService;
import java.util.concurrent.Executors;
import java.util.concurrent.Future;
import java.util.concurrent.TimeUnit;
import java.util.regex.Matcher;
import java.util.regex.Pattern;
import javax.tools.JavaCompiler;
import javax.tools.ToolProvider;

/**
 * A test of the tests, run by hand: the class is broken in one place after the other, and EdgesTest is run on each copy.
 * It tells the copies at which no sentence fails, and the sentences that fail at no copy.
 */
public final class BrokenCopies {
    private static final Path SOURCE = Path.of("src/main/java/BedsArePlaces.java");
    private static final int SECONDS = 60;

    /** Where a copy differs: from, to (places in the source), and what stands there instead. */
    private record Break(int from, int to, String instead) { }

    private final String source;
    /** The source without comments and texts: blanks stand where they stood. */
    private final String bare;
    private final Path tests;
    private final Path copies;
    private final Map<Integer, List<Break>> breaks = new LinkedHashMap<>();

    private BrokenCopies(String source, Path tests, Path copies) {
        this.source = source;
        this.tests = tests;
        this.copies = copies;
        StringBuilder blanked = new StringBuilder(source);
        Matcher m = Pattern.compile("(?s)/\\*.*?\\*/|//[^\n]*|\"(\\\\.|[^\"\\\\])*\"|'(\\\\.|[^'\\\\])'").matcher(source);
        while (m.find()) {
            for (int i = m.start(); i < m.end(); i++) {
                blanked.setCharAt(i, source.charAt(i) == '\n' ? '\n' : ' ');
            }
        }
        bare = blanked.toString();
    }

    public static void main(String[] args) throws Exception {
        Path copies = Files.createTempDirectory("broken");
        new BrokenCopies(Files.readString(SOURCE), Path.of(args[0]), copies).run();
    }

    private void run() throws Exception {
        find();
        ExecutorService some = Executors.newFixedThreadPool(Runtime.getRuntime().availableProcessors());
        List<Break> all = new ArrayList<>();
        breaks.values().forEach(all::addAll);
        List<Future<List<String>>> wrong = new ArrayList<>();
        for (int i = 0; i < all.size(); i++) {
            wrong.add(some.submit(asked(all.get(i), i)));
        }
        TreeSet<String> never = new TreeSet<>(EdgesTest.sentences());
        int compiled = 0;
        int unseen = 0;
        for (int i = 0; i < all.size(); i++) {
            List<String> its = wrong.get(i).get();
            if (its != null) {
                compiled++;
                never.removeAll(its);
                if (its.isEmpty()) {
                    unseen++;
                    System.out.println("NO SENTENCE FAILS: " + shown(all.get(i)));
                }
            }
        }
        some.shutdown();
        never.forEach(sentence -> System.out.println("FAILS AT NO COPY: " + sentence));
        System.out.println(compiled + " copies, " + unseen + " at which no sentence fails, " + never.size() + " sentences that fail at none");
    }

    private String shown(Break its) {
        int line = (int) source.substring(0, its.from).chars().filter(c -> c == '\n').count() + 1;
        int start = source.lastIndexOf('\n', its.from - 1) + 1;
        int end = source.indexOf('\n', its.to);
        return "line " + line + ": " + (source.substring(start, its.from) + "[" + source.substring(its.from, its.to) + " -> " + its.instead + "]" + source.substring(its.to, end)).trim();
    }

    /** The sentences that fail at a copy; null if it is no program. One that does not end fails at all. */
    private Callable<List<String>> asked(Break its, int number) {
        return () -> {
            Path folder = Files.createDirectories(copies.resolve(String.valueOf(number)));
            Path file = folder.resolve("BedsArePlaces.java");
            Files.writeString(file, source.substring(0, its.from) + its.instead + source.substring(its.to));
            JavaCompiler compiler = ToolProvider.getSystemJavaCompiler();
            try (var files = compiler.getStandardFileManager(null, null, null)) {
                if (!compiler.getTask(new StringWriter(), files, diagnostic -> { }, List.of("-nowarn", "-d", folder.toString()), null, files.getJavaFileObjects(file)).call()) {
                    return null;
                }
            }
            return sentencesOf(folder);
        };
    }

    private List<String> sentencesOf(Path folder) throws IOException, InterruptedException {
        Path out = folder.resolve("out.txt");
        Process process = new ProcessBuilder("java", "-XX:TieredStopAtLevel=1", "-cp", folder + ":" + tests, "EdgesTest", "sentences").redirectErrorStream(true).redirectOutput(out.toFile()).start();
        if (!process.waitFor(SECONDS, TimeUnit.SECONDS)) {
            process.destroyForcibly();
            return List.of("does not end");
        }
        return Files.readAllLines(out, StandardCharsets.UTF_8);
    }

    private void add(int from, int to, String instead) {
        List<Break> its = breaks.computeIfAbsent(from, at -> new ArrayList<>());
        Break one = new Break(from, to, instead);
        if (!its.contains(one) && !source.substring(from, to).equals(instead)) {
            its.add(one);
        }
    }

    private void each(String pattern, String... instead) {
        Matcher m = Pattern.compile(pattern).matcher(bare);
        while (m.find()) {
            for (String its : instead) {
                add(m.start(1), m.end(1), its);
            }
        }
    }

    private void find() {
        each("[^<](<) ", "<=");
        each("[^<](<=) ", "<");
        each("[^>](>) ", ">=");
        each("[^>](>=) ", ">");
        each(" (==) ", "!=");
        each(" (!=) ", "==");
        each(" (&&) ", "||");
        each(" (\\|\\|) ", "&&");
        each(" (\\+) ", "-");
        each(" (-) ", "+");
        each(" (\\*) ", "+");
        each(" (/) ", "*");
        each(" (%) ", "/");
        each(" (\\|) ", "&");
        each(" (&) ", "|");
        each(" (\\|=) ", "=");
        each(" (>>>) ", ">>");
        each(" (<<) ", ">>");
        each("(\\+=) ", "-=", "=");
        each("(\\+\\+)[;)]", "--");
        each("[( ](!)\\w", "");
        each("Math\\.(min)", "max");
        each("Math\\.(max)", "min");
        each("(Math\\.abs)", "");
        each("return (BAD|NO|FULL|NONE|NOTHING|KIND|INDEX|SIZE);", "SIZE", "BAD", "0");
        each("[:?] (BAD|NO|FULL|NONE|NOTHING|KIND|INDEX|SIZE);", "SIZE", "0");
        each("return (true);", "false");
        each("return (false);", "true");
        numbers();
        statements();
        conditions();
        signs();
    }

    private void numbers() {
        Matcher m = Pattern.compile("(?<![\\w.])(\\d+)(?![\\w.])").matcher(bare);
        while (m.find()) {
            long v = Long.parseLong(m.group(1));
            if (v < 1000000000 || v == 1103515245L) {
                add(m.start(), m.end(), String.valueOf(v + 1));
                add(m.start(), m.end(), String.valueOf(v - 1));
            }
        }
    }

    /** A statement that does something is left out. */
    private void statements() {
        Matcher m = Pattern.compile("(?m)^ {8,}([\\w.\\[\\]]+ (?:[-+|]?=) [^;\n]+;|[\\w.\\[\\]]+\\([^;\n]*\\);|[\\w.\\[\\]]+\\+\\+;|continue;|break;)$").matcher(bare);
        while (m.find()) {
            add(m.start(1), m.end(1), ";");
        }
    }

    /** A condition, or one side of it, always holds, or never does. */
    private void conditions() {
        Matcher m = Pattern.compile("(?:if|while) \\((.+)\\) \\{|return ([^;?]+)(?:;| \\?)|; ([^;]+); \\w+\\+\\+|= ([^;?=]+) \\?").matcher(bare);
        while (m.find()) {
            for (int group = 1; group <= 4; group++) {
                if (m.group(group) != null) {
                    sides(m.start(group), m.group(group));
                }
            }
        }
    }

    private void sides(int start, String condition) {
        int at = 0;
        int depth = 0;
        int from = 0;
        while (at <= condition.length()) {
            boolean end = at == condition.length();
            boolean joins = !end && depth == 0 && (condition.startsWith(" && ", at) || condition.startsWith(" || ", at));
            if (end || joins) {
                add(start + from, start + at, "true");
                add(start + from, start + at, "false");
                at += joins ? 4 : 1;
                from = at;
            } else {
                depth += condition.charAt(at) == '(' ? 1 : condition.charAt(at) == ')' ? -1 : 0;
                at++;
            }
        }
    }

    /** Signs and words within texts: one is another one. */
    private void signs() {
        Matcher m = Pattern.compile("'([^'\\\\])'|\"([^\"\\\\])").matcher(source);
        while (m.find()) {
            int group = m.group(1) != null ? 1 : 2;
            if (bare.charAt(m.start()) == ' ') {
                add(m.start(group), m.end(group), String.valueOf((char) (source.charAt(m.start(group)) + 1)));
                add(m.start(group), m.end(group), String.valueOf((char) (source.charAt(m.start(group)) - 1)));
            }
        }
    }
}
