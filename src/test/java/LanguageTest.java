import java.nio.file.Files;
import java.nio.file.Path;
import java.util.List;
import java.util.regex.Matcher;
import java.util.regex.Pattern;

/** What can be seen of ../shared/LANGUAGE.md in the source's text. */
public final class LanguageTest {
    private static final List<String> NO_WORDS = List.of("throw", "throws", "try", "catch", "finally", "synchronized", "assert", "import", "package", "native", "volatile", "transient", "protected", "Object", "Exception", "Thread", "Random", "Class", "equals", "hashCode", "toString", "var", "double", "float", "instanceof");
    private static final List<String> CALLS_OF_THE_LIBRARY = List.of("System.arraycopy", "Math.min", "Math.max", "Math.abs", "Integer.bitCount");
    private static final int LONGEST_METHOD = 60;
    private static final Due d = new Due("LanguageTest");

    public static void main(String[] args) throws Exception {
        String source = Files.readString(Path.of("src/main/java/BedsArePlaces.java"));
        d.holds("the signs of the source are 1 to 127", source.chars().allMatch(sign -> sign > 0 && sign < 128));
        String bare = withoutTexts(source);
        for (String word : NO_WORDS) {
            d.holds("no word " + word, !Pattern.compile("\\b" + word + "\\b").matcher(bare).find());
        }
        d.holds("no lambda, no method reference", !bare.contains("->") && !bare.contains("::"));
        d.holds("no loop without a bound", !bare.contains("while (true)") && !bare.contains("for (;"));
        library(bare);
        methods(bare);
        d.end();
    }

    private static String withoutTexts(String source) {
        String bare = source.replaceAll("(?s)/\\*.*?\\*/", "");
        bare = bare.replaceAll("'(\\\\.|[^'\\\\])'", "' '").replaceAll("\"(\\\\.|[^\"\\\\])*\"", "\"\"");
        return bare.replaceAll("//[^\n]*", "");
    }

    private static void library(String bare) {
        Matcher m = Pattern.compile("\\b(System|Math|Integer|Long|Arrays|String|List|ArrayList|StringBuilder)\\.(\\w+)").matcher(bare);
        while (m.find()) {
            d.holds("the library has " + m.group(), CALLS_OF_THE_LIBRARY.contains(m.group()));
        }
    }

    /** Methods are short and take few parameters. */
    private static void methods(String bare) {
        Matcher m = Pattern.compile("\n( {4,8})(?:public |private |static |final )*[\\w\\[\\]]+ \\w+\\(([^)]*)\\) \\{\n").matcher(bare);
        int many = 0;
        while (m.find()) {
            int end = bare.indexOf("\n" + m.group(1) + "}", m.end() - 1);
            long lines = bare.substring(m.start(), end).lines().count();
            d.holds(m.group().trim() + " is short: " + lines, lines <= LONGEST_METHOD);
            d.holds(m.group().trim() + " takes few", m.group(2).split(",").length <= 7);
            many++;
        }
        d.holds("methods are found", many > 100);
    }
}
