/** Promises 42 to 46: rows, images. */
public final class RowsTest {
    private static final int BAD = -1000000001, NO = -1000000002, FULL = -1000000003, NONE = -1000000005;
    private static final int MIN = Integer.MIN_VALUE, MAX = Integer.MAX_VALUE;
    private static final Due d = new Due("RowsTest");

    public static void main(String[] args) {
        tell();
        checkRefused();
        checkRows();
        checkByTheImage();
        checkTheLastNight();
        keepAndBack();
        keepsNotAll();
        backToTexts();
        count();
        d.end();
    }

    private static BedsArePlaces busy(int seed) {
        BedsArePlaces x = new BedsArePlaces();
        x.seed(seed);
        x.deal(9);
        x.bed(0, 3, 5, 0);
        for (int i = 0; i < 9; i++) {
            x.one(i & 7, i * 3 & 7);
        }
        Due.text(x, "hours t+w-1");
        x.nights(2);
        return x;
    }

    /** Slept and those at home behind each of n nights, as going on tells them. */
    private static int[] nightsOf(BedsArePlaces x, int n) {
        int[] rows = new int[2 * n];
        for (int i = 0; i < n; i++) {
            x.nights(1);
            rows[2 * i] = x.land(0);
            rows[2 * i + 1] = x.land(4);
        }
        return rows;
    }

    private static void tellAll(BedsArePlaces x, int[] rows, int many) {
        for (int i = 0; i < many; i++) {
            x.tell(rows[i]);
        }
    }

    private static void tell() {
        d.promise(42);
        BedsArePlaces x = new BedsArePlaces();
        for (int i = 1; i <= 60; i++) {
            d.due("tell number " + i, x.tell(i % 3 == 0 ? MIN : i % 3 == 1 ? MAX : NONE), i);
        }
        d.due("one more", x.tell(0), FULL);
        d.due("count(5)", x.count(5), 60);
        x.check(1);
        d.due("tell, none waits", x.tell(7), 1);
    }

    private static void checkRefused() {
        d.promise(43);
        BedsArePlaces x = new BedsArePlaces();
        int[] no = {0, -1, 31, MIN, MAX};
        for (int n : no) {
            x.tell(1);
            d.due("check(" + n + "), no image", x.check(n), BAD);
            d.due("count(5): none waits", x.count(5), 0);
        }
        x.tell(1);
        d.due("check(1), no image", x.check(1), NO);
        d.due("count(5): none waits", x.count(5), 0);
        x.keep();
        x.tell(0);
        d.due("check(0)", x.check(0), BAD);
        d.due("count(5): none waits", x.count(5), 0);
        d.due("check(1), none waits", x.check(1), 1);
        x.tell(0);
        x.tell(0);
        d.due("check(1), no folk", x.check(1), 0);
        d.due("count(5): none waits", x.count(5), 0);
        d.due("check(1): they are used up", x.check(1), 1);
    }

    private static void checkRows() {
        for (int seed = 3; seed < 6; seed++) {
            BedsArePlaces x = busy(seed);
            int[] rows = nightsOf(busy(seed), 30);
            d.holds("the run is not an empty one", rows[58] > rows[0]);
            x.keep();
            tellAll(x, rows, 60);
            d.due("check(30), all right", x.check(30), 0);
            for (int wrong = 0; wrong < 8; wrong++) {
                rows[wrong] ^= 1 << wrong;
                tellAll(x, rows, 8);
                d.due("check(4), number " + wrong + " is not right", x.check(4), 1 + wrong);
                rows[wrong] ^= 1 << wrong;
            }
            tellAll(x, rows, 7);
            d.due("check(4), one is missing", x.check(4), 8);
            tellAll(x, rows, 8);
            d.due("check(3), two too many", x.check(3), 7);
            tellAll(x, rows, 7);
            d.due("check(3), one too many", x.check(3), 7);
            tellAll(x, rows, 8);
            x.tell(-5);
            d.due("check(3), three too many", x.check(3), 7);
        }
    }

    private static void checkByTheImage() {
        BedsArePlaces x = busy(8);
        int[] rows = nightsOf(busy(8), 5);
        x.keep();
        x.nights(7);
        x.turns(0, 5);
        x.seed(5);
        Due.text(x, "hours 0");
        String was = Due.all(x);
        tellAll(x, rows, 10);
        d.due("check(5): by the image, not as it is now", x.check(5), 0);
        d.holds("what is only checked changes nothing", was.equals(Due.all(x)));
        tellAll(x, rows, 10);
        d.due("check(5) once more: the image is as it was", x.check(5), 0);
        d.due("back()", x.back(), 10);
        tellAll(x, rows, 10);
        d.due("check(5), behind back()", x.check(5), 0);
    }

    private static void checkTheLastNight() {
        BedsArePlaces x = new BedsArePlaces();
        x.bed(0, 0, 0, 0);
        x.one(0, 0);
        x.carry(0);
        for (int i = 0; i < 99; i++) {
            x.nights(100);
        }
        x.nights(97);
        x.keep();
        int[] rows = {9998, 1, 9999, 1, 10000, 1};
        tellAll(x, rows, 4);
        d.due("check(30), two nights are left", x.check(30), 0);
        tellAll(x, rows, 4);
        d.due("check(2)", x.check(2), 0);
        tellAll(x, rows, 6);
        d.due("check(3), a night too many", x.check(3), 5);
        tellAll(x, rows, 2);
        d.due("check(1)", x.check(1), 0);
        x.nights(2);
        x.keep();
        d.due("check(9), no night is left", x.check(9), 0);
        x.tell(9999);
        d.due("check(9), one too many", x.check(9), 1);
    }

    private static BedsArePlaces readyToKeep() {
        BedsArePlaces x = busy(11);
        x.turns(9, 3);
        x.sends(2, 3, 1);
        Due.text(x, "fine f+1");
        return x;
    }

    private static void keepAndBack() {
        d.promise(44);
        BedsArePlaces x = readyToKeep();
        String was = Due.all(readyToKeep());
        BedsArePlaces kept = readyToKeep();
        kept.keep();
        d.holds("it changes nothing", was.equals(Due.all(kept)));
        d.due("keep()", x.keep(), 10);
        d.promise(45);
        for (int again = 0; again < 2; again++) {
            x.nights(30);
            x.carry(99);
            x.set(1, 1, 0);
            x.set(1, 2, 1);
            x.set(1, 3, 2);
            x.turns(1, 1);
            x.sends(0, 0, 1);
            x.sends(0, 1, 1);
            x.sends(0, 2, 1);
            x.sends(0, 3, 1);
            Due.text(x, "fine f+2");
            d.holds("it is otherwise now", x.count(1) == 32 && x.fine(0) == x.told(0, 1) + 2);
            d.due("back()", x.back(), 10);
            d.holds("all is as it was", was.equals(Due.all(x)));
        }
        BedsArePlaces y = new BedsArePlaces();
        d.due("back(), none is kept", y.back(), NO);
        y.bed(0, 1, 2, 3);
        d.due("keep()", y.keep(), 1);
        y.bed(0, 1, 2, 3);
        y.bed(0, 1, 2, 3);
        d.due("back()", y.back(), 1);
        d.due("count(0)", y.count(0), 1);
        d.due("bed, the next number", y.bed(4, 5, 6, 7), 1);
        y.one(1, 1);
        d.due("keep() in place of the other", y.keep(), 2);
        y.one(2, 2);
        y.sends(0, 0, 5);
        d.due("back()", y.back(), 2);
        d.due("count(3)", y.count(3), 1);
        d.due("folk(0, 0)", y.folk(0, 0), 1);
        d.due("told(1, 0)", y.told(1, 0), 4);
        y.one(3, 4);
        y.sends(1, 2, 9);
        y.sends(1, 3, 1);
        y.back();
        y.one(6, 6);
        d.due("folk(1, 2): a new one, not the one that was", y.folk(1, 2), 0);
        d.due("folk(1, 3)", y.folk(1, 3), 0);
        BedsArePlaces none = new BedsArePlaces();
        d.due("keep(), no beds", none.keep(), 0);
        none.bed(0, 0, 0, 0);
        d.due("back(), no beds", none.back(), 0);
        d.due("told(0, 0)", none.told(0, 0), BAD);
    }

    private static void keepsNotAll() {
        BedsArePlaces x = new BedsArePlaces();
        x.one(4, 4);
        x.bed(0, 1, 7, 0);
        x.keep();
        x.sheet(1, 0, 2);
        x.mark(1, 0, 4);
        x.lay(2, 3, 9);
        x.lay(3, 1, 0);
        x.tell(5);
        x.feed(0, 0, 0);
        x.back();
        d.due("reads(1): sheets are not kept", x.reads(1), 1);
        d.due("rest(2, 5): slots are not kept", x.rest(2, 5), 4);
        d.due("ask(3, 0): slots are not kept", x.ask(3, 0), 6);
        d.due("count(5): what waits is not kept", x.count(5), 1);
        d.due("count(6): the tape is not kept", x.count(6), 12);
        d.due("z", x.count(7), 1);
    }

    private static void backToTexts() {
        BedsArePlaces x = new BedsArePlaces();
        Due.text(x, "fee 1");
        x.keep();
        Due.text(x, "fee 2");
        Due.text(x, "hours 3");
        d.due("fee()", x.fee(), 2);
        x.back();
        d.due("fee(), by the image's text", x.fee(), 1);
        d.due("count(4)", x.count(4), 1);
        d.due("why(0)", x.why(0), NONE);
        d.due("why(1)", x.why(1), 0);
        d.due("textTold(1, 0)", x.textTold(1, 0), BAD);
        d.due("text, the next number", Due.text(x, "fine 4"), 1);
        d.due("fee()", x.fee(), 1);
        Due.text(x, "fee 5+");
        x.back();
        d.due("fee()", x.fee(), 1);
        for (int i = 1; i < 14; i++) {
            d.due("text number " + i, Due.text(x, "fee " + i + "+100"), i);
        }
        Due.text(x, "fee 77");
        x.back();
        d.due("fee(), behind fourteen texts", x.fee(), 1);
    }

    private static void count() {
        d.promise(46);
        BedsArePlaces x = new BedsArePlaces();
        x.bed(0, 0, 0, 0);
        x.bed(0, 0, 0, 0);
        x.carry(0);
        x.nights(3);
        x.carry(7);
        for (int i = 0; i < 4; i++) {
            x.one(i, i);
        }
        for (int i = 0; i < 5; i++) {
            Due.text(x, "fee 1");
        }
        for (int i = 0; i < 6; i++) {
            x.tell(0);
        }
        x.feed(0, 0, 0);
        x.seed(-8);
        int[] due = {2, 3, 7, 4, 5, 6, 12, -8};
        for (int what = 0; what < 8; what++) {
            d.due("count(" + what + ")", x.count(what), due[what]);
        }
        int[] no = {-1, 8, MIN, MAX};
        for (int what : no) {
            d.due("count(" + what + ")", x.count(what), BAD);
        }
    }
}
