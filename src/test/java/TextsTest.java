/** Promises 28 to 32: texts. */
public final class TextsTest {
    private static final int BAD = -1000000001, FULL = -1000000003, NONE = -1000000005;
    private static final Due d = new Due("TextsTest");

    public static void main(String[] args) {
        feed();
        trim();
        text();
        words();
        faults();
        depth();
        values();
        textTold();
        why();
        d.end();
    }

    private static void feed() {
        d.promise(28);
        BedsArePlaces x = new BedsArePlaces();
        for (int i = 1; i <= 8; i++) {
            d.due("feed number " + i, x.feed(0x20202020, 0x20202020, 0x20202020), 12 * i);
        }
        d.due("feed, the tape is full", x.feed(0, 0, 0), FULL);
        d.due("count(6)", x.count(6), 96);
        x.trim(85);
        d.due("feed, one byte too many", x.feed(0, 0, 0), FULL);
        d.due("count(6)", x.count(6), 85);
        x.trim(84);
        d.due("feed, just room", x.feed(0, 0, 0), 96);
        x.trim(0);
        d.due("feed, from the start", x.feed(0x66656520, 0x31323334, 0x2B352020), 12);
        d.due("text(): the highest byte is first", x.text(), 0);
        d.due("fee()", x.fee(), 1239);
        x.feed(0x66656520, 0xFFFFFFFF, 0x80000000);
        d.due("text(): bytes above 127 are signs", x.text(), -104);
    }

    private static void trim() {
        d.promise(29);
        BedsArePlaces x = new BedsArePlaces();
        d.due("trim(0), an empty tape", x.trim(0), 0);
        d.due("trim(1), an empty tape", x.trim(1), BAD);
        x.feed(0x66656520, 0x31323334, 0x2B352020);
        d.due("trim(13)", x.trim(13), BAD);
        d.due("trim(-1)", x.trim(-1), BAD);
        d.due("trim(MIN)", x.trim(Integer.MIN_VALUE), BAD);
        d.due("trim(MAX)", x.trim(Integer.MAX_VALUE), BAD);
        d.due("count(6)", x.count(6), 12);
        d.due("trim(12)", x.trim(12), 12);
        d.due("trim(7)", x.trim(7), 7);
        d.due("trim(8)", x.trim(8), BAD);
        x.feed(0x2B312020, 0x20202020, 0x20202020);
        d.due("text(): goes on behind what was kept", x.text(), 0);
        d.due("fee()", x.fee(), 124);
        x.feed(0x66656520, 0x73737320, 0x20202020);
        x.trim(5);
        d.due("text(): what was trimmed is read no more", x.text(), 1);
        x.feed(0x66656520, 0x37373737, 0x37202020);
        x.trim(5);
        d.due("text(): nor digits", x.text(), 2);
        d.due("fee()", x.fee(), 7);
    }

    private static void text() {
        d.promise(30);
        BedsArePlaces x = new BedsArePlaces();
        d.due("text(), an empty tape", x.text(), -100);
        for (int i = 0; i < 14; i++) {
            d.due("text number " + i, Due.text(x, "fee " + i), i);
            d.due("count(6): used up", x.count(6), 0);
            d.due("text() of no more tape", x.text(), -100);
            d.due("count(4)", x.count(4), i + 1);
        }
        d.due("the fifteenth", Due.text(x, "fee 99"), FULL);
        d.due("count(6): used up all the same", x.count(6), 0);
        d.due("the fifteenth, with a fault", Due.text(x, "fee 99+"), -107);
        d.due("count(6): used up all the same", x.count(6), 0);
        d.due("count(4)", x.count(4), 14);
        d.due("fee(): the last one that was told", x.fee(), 13);
        Due.text(x, "hours 0");
        d.due("why(0): it was not told", x.why(0), NONE);
        BedsArePlaces y = new BedsArePlaces();
        Due.text(y, "fee 5");
        Due.text(y, "fee 6+");
        d.due("fee(): one with a fault does not count", y.fee(), 5);
        d.due("the next one", Due.text(y, "fee s+7"), 1);
        d.due("fee(): nothing is left of the one with a fault", y.fee(), 7);
        d.due("textTold(1, 1): nor is here", y.textTold(1, 1), 2);
        Due.text(y, "fee sa");
        d.due("the next one, behind a fault in a word", Due.text(y, "hours t"), 2);
        Due.text(y, "fee 12345");
        d.due("the next one, behind a fault in a number", Due.text(y, "fine f"), 3);
    }

    private static void place(String bytes, int place) {
        BedsArePlaces x = new BedsArePlaces();
        String was = Due.all(x);
        d.due("text() of '" + bytes + "'", Due.text(x, bytes), place < 0 ? 0 : -100 - place);
        if (place >= 0) {
            d.holds("a fault changes nothing", was.equals(Due.all(x)));
        }
    }

    private static void words() {
        place("fee s", -1);
        place("  fee   s  ", -1);
        place("fee(s)", -1);
        place("fee!s", -1);
        place("fee s+a*2/(s-a)", -1);
        place("fee s + a * 2 / ( s - a ) ", -1);
        place("fee 0", -1);
        place("fee 9999", -1);
        place("fee 0000", -1);
        place("fees", 0);
        place("gee s", 0);
        place("hourz t", 0);
        place("fee sz", 4);
        place("fee az", 4);
        place("fee7", 3);
        place("hours7", 5);
        place("fine12345", 4);
        place("fee 7s", 5);
        place("fee s7", 5);
        place("fee sa", 4);
        place("fee 12345", 4);
        place("fee 00001", 4);
        place("fee 99999999999999999999", 4);
        place("Fee s", 0);
        place("feE s", 0);
        place("fee S", 4);
        place("fee\ts", 3);
        place("fee s\n", 5);
        place("fee s\u00ff", 5);
        place("fee\u00a0s", 3);
    }

    private static void faults() {
        place("", 0);
        place("   ", 3);
        place("7", 0);
        place(" what s", 1);
        place("(fee s)", 0);
        place("hours", 5);
        place("hours  ", 7);
        place("fee s fee s", 6);
        place("fee hours", 4);
        place("fee s s", 6);
        place("fee s 7", 6);
        place("fee s(", 5);
        place("fee s !a", 6);
        place("fee )", 4);
        place("fee s)", 5);
        place("fee (s))", 7);
        place("fee ()", 5);
        place("fee (s", 6);
        place("fee (s ", 7);
        place("fee ( ", 6);
        place("fee !", 5);
        place("fee !!)", 6);
        place("fee s+", 6);
        place("fee s+ ", 7);
        place("fee +s", 4);
        place("fee -1", 4);
        place("fee s+-1", 6);
        place("fee s**2", 6);
        place("fee s<a<2", 7);
        place("fee s<a=2", 7);
        place("fee s>a>2", 7);
        place("fee (s<a)=2", -1);
        place("fee s<a&a<s", -1);
        place("fee s<a|a<s=1", 11);
        place("fee s<a|a<s&s=1", -1);
        place("fee s<(a<(s=1))", -1);
        place("fee s<(a<s=1)", 10);
        place("fee s==a", 6);
        place("fee s&&a", 6);
        place("fee s||a", 6);
        place("fee s<", 6);
        place("fee s#a", 5);
        place("fee s%2", 5);
        place("fee s.a", 5);
        place("fee s=!a", -1);
        place("fee s*!!a", -1);
        String[] names = {"t", "n", "w", "s", "a", "f", "o"};
        for (int i = 0; i < names.length; i++) {
            place("hours " + names[i], i < 3 ? -1 : 6);
            place("fee " + names[i], i == 3 || i == 4 ? -1 : 4);
            place("fine " + names[i], i > 4 ? -1 : 5);
        }
        place("hours x", 6);
        place("fee " + "s+".repeat(45) + "s", -1);
        place("fee " + "s+".repeat(46), 96);
        place("fee  " + "s+".repeat(45) + "s", -1);
        place("fee  " + "s+".repeat(45) + "7", -1);
    }

    private static void depth() {
        place("fee " + "(".repeat(8) + "s" + ")".repeat(8), -1);
        place("fee " + "(".repeat(9) + "s" + ")".repeat(9), 12);
        place("fee " + "(".repeat(8) + "s" + ")".repeat(8) + "+(s)", -1);
        place("fee (s)" + "+(s)".repeat(9), -1);
        place("fee (((((((s+(s))*(s))))))+((s)))", -1);
        place("fee " + "!".repeat(8) + "s", -1);
        place("fee " + "!".repeat(9) + "s", 12);
        place("fee " + "!s+".repeat(10) + "!s", -1);
        place("fee " + "!".repeat(8) + "s+" + "!".repeat(8) + "s", -1);
        place("fee " + "!(".repeat(8) + "s" + ")".repeat(8), -1);
        place("fee " + "!(".repeat(8) + "!s" + ")".repeat(8), 20);
        place("fee " + "!(".repeat(8) + "(s)" + ")".repeat(8), 20);
        place("fee !!!!(!!!!s)", -1);
        place("fee !!!!(!!!!!s)", 13);
        place("fee !!!!(!!!!s+!!!!s)", -1);
        place("fee !!!!(s)+!!!!!!!!s", -1);
        place("fee " + "(".repeat(92), 12);
        place("fee " + "!".repeat(92), 12);
    }

    private static void value(String e, int value) {
        BedsArePlaces x = new BedsArePlaces();
        x.bed(0, 2, 7, 0);
        d.due("text() of 'fine " + e + "'", Due.text(x, "fine " + e), 0);
        d.due("fine(0) by '" + e + "'", x.fine(0), value);
    }

    private static void values() {
        value("f", 2);
        value("o", 7);
        value("0012", 12);
        value("1+2*3", 7);
        value("(1+2)*3", 9);
        value("10-3-2", 5);
        value("100/7/2", 7);
        value("100/7*2", 28);
        value("7-2*3+1", 2);
        value("(0-7)/2", -3);
        value("7/(0-2)", -3);
        value("7/0", 0);
        value("7/(f-2)", 0);
        value("9999*9999*9999", 9999 * 9999 * 9999);
        value("0-9999*9999*22-9999*9999*22", -9999 * 9999 * 22 - 9999 * 9999 * 22);
        value("(0-8192*512*512)/(0-1)", Integer.MIN_VALUE);
        value("1<2", 1);
        value("2<2", 0);
        value("2<1", 0);
        value("2>1", 1);
        value("2>2", 0);
        value("1>2", 0);
        value("2=2", 1);
        value("2=1", 0);
        value("(0-1)<0", 1);
        value("(0-1)>0", 0);
        value("1+1=2", 1);
        value("1=0+1", 1);
        value("3<(2<1)", 0);
        value("(3<2)<1", 1);
        value("5&6", 1);
        value("5&0", 0);
        value("0&5", 0);
        value("0&0", 0);
        value("(0-1)&1", 1);
        value("5|0", 1);
        value("0|5", 1);
        value("5|6", 1);
        value("0|0", 0);
        value("1|0&0", 1);
        value("(1|0)&0", 0);
        value("0&0|1", 1);
        value("0=1|2>1&3<2", 0);
        value("1<2&2<3", 1);
        value("!0", 1);
        value("!7", 0);
        value("!!7", 1);
        value("!0+1", 2);
        value("!(0+1)", 0);
        value("!0*5", 5);
        value("3-!0", 2);
        value("!f=0", 1);
        value("!(f=0)", 1);
        value("!(f=2)", 0);
        value("1+1+1+1+1+1+1+1+1+1+1+1+1+1+1+1+1+1+1+1+1+1+1+1+1+1+1+1+1+1+1+1+1+1+1+1+1+1+1+1+1+1+1+1+1+1", 46);
    }

    private static void textTold() {
        d.promise(31);
        BedsArePlaces x = new BedsArePlaces();
        d.due("textTold(0, 0), no texts", x.textTold(0, 0), BAD);
        Due.text(x, "hours 5 - t*2");
        Due.text(x, "fee !s");
        Due.text(x, "fine ((f)+(o))*1234=(0|f&7)");
        int[][] due = {{0, 3}, {1, 1}, {2, 6}};
        for (int text = 0; text < 3; text++) {
            d.due("textTold(" + text + ", 0)", x.textTold(text, 0), due[text][0]);
            d.due("textTold(" + text + ", 1)", x.textTold(text, 1), due[text][1]);
        }
        Due.text(x, "fee " + "s+".repeat(45) + "s");
        d.due("textTold(3, 1)", x.textTold(3, 1), 46);
        Due.text(x, "hours t+");
        d.due("textTold(4, 0), it was none", x.textTold(4, 0), BAD);
        d.due("textTold(-1, 0)", x.textTold(-1, 0), BAD);
        d.due("textTold(14, 0)", x.textTold(14, 0), BAD);
        d.due("textTold(MAX, 0)", x.textTold(Integer.MAX_VALUE, 0), BAD);
        d.due("textTold(0, 2)", x.textTold(0, 2), BAD);
        d.due("textTold(0, -1)", x.textTold(0, -1), BAD);
    }

    private static void why() {
        d.promise(32);
        BedsArePlaces x = new BedsArePlaces();
        for (int key = 0; key < 3; key++) {
            d.due("why(" + key + "), no texts", x.why(key), NONE);
        }
        Due.text(x, "fine 1");
        Due.text(x, "hours 2");
        Due.text(x, "fine 3");
        d.due("why(0)", x.why(0), 1);
        d.due("why(1)", x.why(1), NONE);
        d.due("why(2)", x.why(2), 2);
        Due.text(x, "fee 4");
        d.due("why(1)", x.why(1), 3);
        d.due("why(3)", x.why(3), BAD);
        d.due("why(-1)", x.why(-1), BAD);
        d.due("why(MIN)", x.why(Integer.MIN_VALUE), BAD);
    }
}
