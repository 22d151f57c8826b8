import java.util.Random;

/** Runs of 512 calls by lot, each answer held against the model's: promises 1 to 46 together. */
public final class RandomRunsTest {
    private static final int RUNS = 400;
    private static final int CALLS = 512;
    private static final int[] WILD = {-1, 8, 9, 10, 11, 24, 25, 60, 61, 100, 101, 9999, 10000, 32768, 65536, 99999, -99999, 100000, Integer.MIN_VALUE, Integer.MAX_VALUE, Integer.MIN_VALUE + 1, Model.NONE, Model.BAD};
    private static final String[] PIECES = {"t", "n", "w", "s", "a", "f", "o", "0", "1", "2", "7", "99", "9999", "10000", "(", ")", "!", "+", "-", "*", "/", "<", "=", ">", "&", "|", " ", "  ", "x", "hours", "A", "\u00ff", "#"};
    private static final Due d = new Due("RandomRunsTest");

    private final Random lot;
    private final BedsArePlaces x = new BedsArePlaces();
    private final Model m = new Model();
    private final boolean tame;
    private String call = "";
    private int calls;

    private RandomRunsTest(int run) {
        lot = new Random(run);
        tame = run % 4 != 0;
    }

    public static void main(String[] args) {
        for (int run = 0; run < RUNS; run++) {
            new RandomRunsTest(run).run(run);
        }
        d.end();
    }

    private void run(int number) {
        try {
            if (number % 10 == 9) {
                toTheLastNights();
            }
            if (number % 3 == 0) {
                due("deal", x.deal(8), m.deal(8));
            }
            while (calls < CALLS) {
                step();
                if (lot.nextInt(40) == 0 && calls < CALLS - 20) {
                    looks();
                }
            }
        } catch (RuntimeException thrown) {
            System.out.println("run " + number + ", call " + calls + ", " + call + ": " + thrown);
            thrown.printStackTrace(System.out);
            d.holds("run " + number + " throws nothing", false);
        }
    }

    private void toTheLastNights() {
        for (int i = 0; i < 99; i++) {
            due("nights(100)", x.nights(100), m.nights(100));
        }
        int more = 60 + lot.nextInt(40);
        due("nights(" + more + ")", x.nights(more), m.nights(more));
    }

    private void due(String what, int got, int want) {
        calls++;
        d.due("call " + calls + ", " + what, got, want);
        if (calls > CALLS) {
            d.holds("one object is called " + CALLS + " times at most", false);
        }
    }

    /** Mostly what may be, now and then anything. */
    private int any(int least, int most) {
        if (lot.nextInt(tame ? 60 : 12) == 0) {
            return lot.nextInt(3) == 0 ? lot.nextInt() : WILD[lot.nextInt(WILD.length)];
        }
        return least + lot.nextInt(most - least + 1);
    }

    private void looks() {
        for (int what = 0; what < 7; what++) {
            due("land(" + what + ")", x.land(what), m.land(what));
        }
        due("count(7)", x.count(7), m.count(7));
    }

    private void step() {
        int which = lot.nextInt(52);
        if (which < 10) {
            beds(which);
        } else if (which < 18) {
            folk(which);
        } else if (which < 23) {
            ways(which);
        } else if (which < 31) {
            thoughts(which);
        } else if (which < 37) {
            texts(which);
        } else if (which < 46) {
            sheets(which);
        } else {
            rows(which);
        }
    }

    private void beds(int which) {
        int a = any(0, 9);
        int b = any(0, 5);
        int c = any(0, 7);
        int e = any(0, 7);
        int f = any(0, 7);
        int what = any(0, 8);
        call = "beds " + which + " " + a + " " + b + " " + c + " " + e + " " + f + " " + what;
        switch (which) {
            case 0, 1 -> due("bed " + call, x.bed(b, c, e, f), m.bed(b, c, e, f));
            case 2, 3 -> due("told " + call, x.told(a, what), m.told(a, what));
            case 4 -> due("as " + call, x.as(a, b), m.as(a, b));
            case 5 -> due("turns " + call, x.turns(a, b), m.turns(a, b));
            case 6 -> due("set " + call, x.set(a, what, c), m.set(a, what, c));
            case 7 -> due("carry " + call, x.carry(a * what), m.carry(a * what));
            case 8 -> due("deal " + call, x.deal(a / 4), m.deal(a / 4));
            default -> due("seed " + call, x.seed(a * 7919), m.seed(a * 7919));
        }
    }

    private void folk(int which) {
        int a = any(0, 8);
        int b = any(0, 7);
        int c = any(0, 7);
        int what = any(0, 4);
        int n = any(1, lot.nextInt(10) == 0 ? 100 : 5);
        call = "folk " + which + " " + a + " " + b + " " + c + " " + what + " " + n;
        switch (which) {
            case 10, 11 -> due("one " + call, x.one(b, c), m.one(b, c));
            case 12 -> due("folk " + call, x.folk(a, what), m.folk(a, what));
            case 13 -> due("sends " + call, x.sends(a, what, b / 2), m.sends(a, what, b / 2));
            case 14 -> due("who " + call, x.who(b), m.who(b));
            case 15, 16 -> due("nights " + call, x.nights(n), m.nights(n));
            default -> due("land " + call, x.land(b), m.land(b));
        }
    }

    private void ways(int which) {
        int a = any(0, 7);
        int b = any(0, 7);
        int what = any(0, 1);
        call = "ways " + which + " " + a + " " + b + " " + what;
        switch (which) {
            case 18 -> due("reach " + call, x.reach(a), m.reach(a));
            case 19, 20 -> due("way " + call, x.way(a, b), m.way(a, b));
            case 21 -> due("lacks " + call, x.lacks(), m.lacks());
            default -> due("missed " + call, x.missed(what), m.missed(what));
        }
    }

    private void thoughts(int which) {
        int n = any(0, 100);
        int what = any(0, 11);
        int one = any(0, 8);
        int bed = any(0, 9);
        int half = any(0, 1);
        int sixty = any(1, lot.nextBoolean() ? 60 : 4);
        int sheet = any(0, 3);
        int third = any(0, 2);
        call = "thoughts " + which + " " + n + " " + what + " " + one + " " + bed + " " + half + " " + sixty + " " + sheet + " " + third;
        switch (which) {
            case 23 -> due("behind " + call, x.behind(n, what), m.behind(n, what));
            case 24 -> due("home " + call, x.home(one), m.home(one));
            case 25 -> due("brought " + call, x.brought(one, third), m.brought(one, third));
            case 26 -> due("belongs " + call, x.belongs(bed, sixty, half), m.belongs(bed, sixty, half));
            case 27 -> due("becomes " + call, x.becomes(bed, sixty, half), m.becomes(bed, sixty, half));
            case 28 -> due("whose " + call, x.whose(sheet, half), m.whose(sheet, half));
            case 29 -> due("fee", x.fee(), m.fee());
            default -> due("fine " + call, x.fine(bed), m.fine(bed));
        }
    }

    private String byLot() {
        StringBuilder text = new StringBuilder(lot.nextInt(20) == 0 ? "hour" : Model.KEYS.get(lot.nextInt(3)));
        text.append(lot.nextInt(10) == 0 ? "" : " ");
        int key = Math.max(0, Model.KEYS.indexOf(text.toString().trim()));
        if (lot.nextInt(5) == 0) {
            int many = lot.nextInt(25);
            for (int i = 0; i < many; i++) {
                text.append(PIECES[lot.nextInt(PIECES.length)]);
            }
        } else {
            grow(text, key, 4 + lot.nextInt(20));
            if (lot.nextInt(6) == 0) {
                int at = lot.nextInt(text.length());
                text.replace(at, at + lot.nextInt(2), PIECES[lot.nextInt(PIECES.length)]);
            }
        }
        return text.substring(0, Math.min(96, text.length()));
    }

    private void grow(StringBuilder text, int key, int size) {
        if (size < 2) {
            String names = Model.NAMES.get(key);
            text.append(lot.nextBoolean() ? String.valueOf(lot.nextInt(lot.nextBoolean() ? 6 : 10000)) : names.charAt(lot.nextInt(names.length())) + "");
            return;
        }
        switch (lot.nextInt(5)) {
            case 0 -> {
                text.append("!");
                grow(text, key, size - 1);
            }
            case 1 -> {
                text.append("(");
                grow(text, key, size - 1);
                text.append(lot.nextInt(30) == 0 ? "" : ")");
            }
            default -> {
                int left = 1 + lot.nextInt(size - 1);
                grow(text, key, left);
                text.append(lot.nextInt(4) == 0 ? " " : "").append("+-*/<=>&|+-*".charAt(lot.nextInt(12)));
                grow(text, key, size - left);
            }
        }
    }

    private void texts(int which) {
        int text = any(0, 13);
        int half = any(0, 1);
        int key = any(0, 2);
        int n = any(0, 96);
        call = "texts " + which + " " + text + " " + half + " " + key + " " + n;
        switch (which) {
            case 31, 32 -> text();
            case 33 -> due("textTold " + call, x.textTold(text, half), m.textTold(text, half));
            case 34 -> due("why " + call, x.why(key), m.why(key));
            case 35 -> due("trim " + call, x.trim(n), m.trim(n));
            default -> due("feed", x.feed(0x20202020, n, key), m.feed(0x20202020, n, key));
        }
    }

    private void text() {
        if (calls > CALLS - 12) {
            return;
        }
        if (m.count(6) > 0) {
            due("trim(0)", x.trim(0), m.trim(0));
        }
        String bytes = byLot();
        call = "text '" + bytes + "'";
        int full = (bytes.length() + 11) / 12 * 12;
        int[] all = new int[full];
        for (int i = 0; i < bytes.length(); i++) {
            all[i] = bytes.charAt(i);
        }
        for (int i = 0; i < full; i += 12) {
            int a = four(all, i);
            int b = four(all, i + 4);
            int c = four(all, i + 8);
            due("feed of " + call, x.feed(a, b, c), m.feed(a, b, c));
        }
        due("trim of " + call, x.trim(bytes.length()), m.trim(bytes.length()));
        due(call, x.text(), m.text());
    }

    private static int four(int[] bytes, int at) {
        return bytes[at] << 24 | bytes[at + 1] << 16 | bytes[at + 2] << 8 | bytes[at + 3];
    }

    private void sheets(int which) {
        int a = any(0, 3);
        int b = any(0, 3);
        int sort = any(-1, 1);
        int n = any(0, 24);
        int place = any(0, 12);
        int at = any(0, 12);
        int many = any(0, 8);
        int v = lot.nextInt(8) == 0 ? Model.NONE : any(0, 7);
        int slot = any(0, 4);
        int thing = any(0, 3);
        int kind = any(0, 5);
        call = "sheets " + which + " " + a + " " + b + " " + sort + " " + n + " " + place + " " + at + " " + many + " " + v + " " + slot + " " + thing + " " + kind;
        switch (which) {
            case 37 -> due("sheet " + call, x.sheet(a, sort, n), m.sheet(a, sort, n));
            case 38, 39 -> due("mark " + call, x.mark(a, place, v), m.mark(a, place, v));
            case 40 -> due("pour " + call, x.pour(a), m.pour(a));
            case 41 -> due("reads " + call, x.reads(a), m.reads(a));
            case 42 -> due("copy " + call, x.copy(a, place, b, at, many), m.copy(a, place, b, at, many));
            case 43 -> due("lay " + call, x.lay(slot, thing, b), m.lay(slot, thing, b));
            case 44 -> due("ask " + call, x.ask(slot, kind), m.ask(slot, kind));
            default -> {
                if (lot.nextBoolean()) {
                    due("item " + call, x.item(slot, place), m.item(slot, place));
                } else {
                    due("rest " + call, x.rest(slot, v - 3), m.rest(slot, v - 3));
                }
            }
        }
    }

    private void rows(int which) {
        int n = any(1, 30);
        int what = any(0, 7);
        call = "rows " + which + " " + n + " " + what;
        switch (which) {
            case 46 -> due("tell", x.tell(n), m.tell(n));
            case 47 -> due("keep", x.keep(), m.keep());
            case 48 -> {
                if (lot.nextInt(4) == 0) {
                    due("back", x.back(), m.back());
                }
            }
            case 49 -> checkRight();
            case 50 -> due("check " + call, x.check(n), m.check(n));
            default -> due("count " + call, x.count(what), m.count(what));
        }
    }

    /** Numbers that are the nights told, but for one now and then. */
    private void checkRight() {
        int n = 1 + lot.nextInt(5);
        if (m.image == null || calls > CALLS - 12) {
            return;
        }
        Model.World w = m.image.copy();
        int wrong = lot.nextInt(3) == 0 ? lot.nextInt(2 * n + 1) : -1;
        int many = 2 * n + (lot.nextInt(5) == 0 ? 1 - lot.nextInt(3) : 0);
        for (int i = 0; i < many; i++) {
            if (i % 2 == 0) {
                w.passOne();
            }
            int v = (i % 2 == 0 ? w.slept : w.home()) + (i == wrong ? 1 : 0);
            due("tell", x.tell(v), m.tell(v));
        }
        due("check(" + n + ")", x.check(n), m.check(n));
    }
}
