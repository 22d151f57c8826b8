import java.nio.charset.StandardCharsets;
import java.util.Arrays;
import java.util.LinkedHashSet;
import java.util.Set;

/** What the tests share: it counts what is not due, and ends the program with it. */
final class Due {
    private static final int SHOWN = 50;
    private final String test;
    private String about = "";
    private String sentence = "";
    private final Set<String> sentences = new LinkedHashSet<>();
    private final Set<String> wrongSentences = new LinkedHashSet<>();
    private boolean silent;
    private int seen;
    private int wrong;

    Due(String test) {
        this.test = test;
    }

    void promise(int number) {
        about = "promise " + number + ": ";
    }

    /** A test of its own for words of the document. What it throws is not due either. */
    void sentence(String part, String words, Runnable its) {
        sentence = part + ": " + words;
        about = sentence + ": ";
        holds("each sentence is told once", sentences.add(sentence));
        holds("the document says so there", Document.has(part, words));
        try {
            its.run();
        } catch (RuntimeException | StackOverflowError thrown) {
            holds("no call throws, but " + thrown, false);
        }
        about = "";
        sentence = "";
    }

    void due(String call, long got, long want) {
        seen++;
        if (got != want) {
            wrong++;
            wrongSentences.add(sentence);
            if (wrong <= SHOWN && !silent) {
                System.out.println(about + call + " answered " + got + ", due is " + want);
            }
        }
    }

    void holds(String what, boolean holds) {
        due(what, holds ? 1 : 0, 1);
    }

    void same(String what, String got, String want) {
        seen++;
        if (!got.equals(want)) {
            due(what + ": " + got + " where due is " + want, 0, 1);
        }
    }

    void beSilent() {
        silent = true;
    }

    Set<String> sentences() {
        return sentences;
    }

    Set<String> wrongSentences() {
        return wrongSentences;
    }

    void end() {
        System.out.println(test + ": " + seen + " answers, " + wrong + " not as due");
        if (wrong != 0 || seen == 0) {
            System.exit(1);
        }
    }

    /** Makes the tape just these bytes: it must hold none. */
    static void feed(BedsArePlaces x, String bytes) {
        int[] fours = fours(bytes);
        for (int i = 0; i < fours.length; i += 3) {
            x.feed(fours[i], fours[i + 1], fours[i + 2]);
        }
        x.trim(bytes.length());
    }

    static int text(BedsArePlaces x, String bytes) {
        feed(x, bytes);
        return x.text();
    }

    /** Bytes as feed takes them: three numbers for each twelve, filled up by bytes 0. */
    static int[] fours(String bytes) {
        byte[] all = bytes.getBytes(StandardCharsets.ISO_8859_1);
        byte[] full = Arrays.copyOf(all, (all.length + 11) / 12 * 12);
        int[] fours = new int[full.length / 4];
        for (int i = 0; i < fours.length; i++) {
            fours[i] = (full[4 * i] & 255) << 24 | (full[4 * i + 1] & 255) << 16 | (full[4 * i + 2] & 255) << 8 | full[4 * i + 3] & 255;
        }
        return fours;
    }

    /** All that an object tells of itself: two that stand alike tell the same. */
    static String all(BedsArePlaces x) {
        StringBuilder all = new StringBuilder();
        for (int what = 0; what < 8; what++) {
            all.append(x.count(what)).append(' ');
        }
        for (int what = 0; what < 7; what++) {
            all.append(x.land(what)).append(' ');
        }
        for (int b = 0; b < x.count(0); b++) {
            for (int what = 0; what < 4; what++) {
                all.append(x.told(b, what)).append(' ');
            }
        }
        for (int i = 0; i < x.count(3); i++) {
            for (int what = 0; what < 5; what++) {
                all.append(x.folk(i, what)).append(' ');
            }
        }
        for (int t = 0; t < x.count(4); t++) {
            all.append(x.textTold(t, 0)).append(' ').append(x.textTold(t, 1)).append(' ');
        }
        for (int key = 0; key < 3; key++) {
            all.append(x.why(key)).append(' ');
        }
        for (int i = 0; i < 4; i++) {
            all.append(x.reads(i)).append(' ');
            all.append(x.copy(i, 0, i, 0, 1)).append(' ');
        }
        for (int i = 0; i < 5; i++) {
            all.append(x.ask(i, 0)).append(' ').append(x.item(i, 0)).append(' ').append(x.rest(i, 1000000007)).append(' ');
        }
        return all.toString();
    }
}
