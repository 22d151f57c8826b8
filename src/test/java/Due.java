import java.nio.charset.StandardCharsets;
import java.util.Arrays;

/** What the tests share: it counts what is not due, and ends the program with it. */
final class Due {
    private static final int SHOWN = 50;
    private final String test;
    private String about = "";
    private int seen;
    private int wrong;

    Due(String test) {
        this.test = test;
    }

    void promise(int number) {
        about = "promise " + number + ": ";
    }

    void due(String call, long got, long want) {
        seen++;
        if (got != want) {
            wrong++;
            if (wrong <= SHOWN) {
                System.out.println(about + call + " answered " + got + ", due is " + want);
            }
        }
    }

    void holds(String what, boolean holds) {
        due(what, holds ? 1 : 0, 1);
    }

    void end() {
        System.out.println(test + ": " + seen + " answers, " + wrong + " not as due");
        if (wrong != 0 || seen == 0) {
            System.exit(1);
        }
    }

    /** Makes the tape just these bytes: it must hold none. */
    static void feed(BedsArePlaces x, String bytes) {
        byte[] all = bytes.getBytes(StandardCharsets.ISO_8859_1);
        byte[] full = Arrays.copyOf(all, (all.length + 11) / 12 * 12);
        for (int i = 0; i < full.length; i += 12) {
            x.feed(four(full, i), four(full, i + 4), four(full, i + 8));
        }
        x.trim(all.length);
    }

    static int text(BedsArePlaces x, String bytes) {
        feed(x, bytes);
        return x.text();
    }

    private static int four(byte[] bytes, int at) {
        return (bytes[at] & 255) << 24 | (bytes[at + 1] & 255) << 16 | (bytes[at + 2] & 255) << 8 | bytes[at + 3] & 255;
    }

    /** All that an object tells of itself: two that stand alike tell the same. */
    static String all(BedsArePlaces x) {
        StringBuilder all = new StringBuilder();
        for (int what = 0; what < 8; what++) {
            all.append(x.count(what)).append(' ');
        }
        for (int what = 0; what < 7; what++) {
            all.append(x.land(what)).append(' ');
        }
        for (int b = 0; b < x.count(0); b++) {
            for (int what = 0; what < 4; what++) {
                all.append(x.told(b, what)).append(' ');
            }
        }
        for (int i = 0; i < x.count(3); i++) {
            for (int what = 0; what < 5; what++) {
                all.append(x.folk(i, what)).append(' ');
            }
        }
        for (int t = 0; t < x.count(4); t++) {
            all.append(x.textTold(t, 0)).append(' ').append(x.textTold(t, 1)).append(' ');
        }
        for (int key = 0; key < 3; key++) {
            all.append(x.why(key)).append(' ');
        }
        for (int i = 0; i < 4; i++) {
            all.append(x.reads(i)).append(' ');
            all.append(x.copy(i, 0, i, 0, 1)).append(' ');
        }
        for (int i = 0; i < 5; i++) {
            all.append(x.ask(i, 0)).append(' ').append(x.item(i, 0)).append(' ').append(x.rest(i, 1000000007)).append(' ');
        }
        return all.toString();
    }
}
