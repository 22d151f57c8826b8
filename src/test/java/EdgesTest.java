import java.util.Set;
import java.util.TreeSet;

/** Each sentence of the document that names a boundary case has a test of its own. */
public final class EdgesTest {
    private EdgesTest() { }

    public static void main(String[] args) {
        Due d = new Due("EdgesTest");
        if (args.length > 0) {
            d.beSilent();
            all(d);
            d.wrongSentences().forEach(System.out::println);
            return;
        }
        all(d);
        refusalsOfEachPromise(d);
        d.end();
    }

    static void all(Due d) {
        new EdgesOfBeds(d).all();
        new EdgesOfFolk(d).all();
        new EdgesOfWays(d).all();
        new EdgesOfThought(d).all();
        new EdgesOfTexts(d).all();
        new EdgesOfSheets(d).all();
        new EdgesOfRows(d).all();
    }

    /** For tests of the tests: all sentences that have one. */
    public static Set<String> sentences() {
        Due d = new Due("EdgesTest");
        d.beSilent();
        all(d);
        return new TreeSet<>(d.sentences());
    }

    /** What a promise names, BAD; FULL; .., is asked for by a test. */
    private static void refusalsOfEachPromise(Due d) {
        int named = 0;
        for (String promise : Document.promises()) {
            for (String refusal : Document.refusalsOf(promise)) {
                String its = Document.methodOf(promise) + " " + refusal;
                d.holds(promise + ": a test asks for " + its, Run.REFUSED.contains(its));
                named++;
            }
        }
        d.holds("refusals are named: " + named, named > 60);
    }
}
