/** Promises 1 to 9: a new object, beds. */
public final class BedsTest {
    private static final int BAD = -1000000001, FULL = -1000000003, NONE = -1000000005, NOTHING = -1000000011, KIND = -1000000012;
    private static final int[] WILD = {-1, -2, 6, 8, 10, 100, Integer.MIN_VALUE, Integer.MAX_VALUE};
    private static final Due d = new Due("BedsTest");

    public static void main(String[] args) {
        newObject();
        bed();
        told();
        toldOfEachKind();
        as();
        turns();
        set();
        carry();
        deal();
        dealDrawsAsTold();
        seed();
        d.end();
    }

    private static BedsArePlaces withOneOfEachKind() {
        BedsArePlaces x = new BedsArePlaces();
        for (int kind = 0; kind < 6; kind++) {
            x.bed(kind, kind, 7 - kind, 3);
        }
        return x;
    }

    private static void newObject() {
        d.promise(1);
        BedsArePlaces x = new BedsArePlaces();
        int[] counts = {0, 0, 20, 0, 0, 0, 0, 1};
        for (int what = 0; what < counts.length; what++) {
            d.due("count(" + what + ") of a new one", x.count(what), counts[what]);
        }
        for (int what = 0; what < 7; what++) {
            d.due("land(" + what + ") of a new one", x.land(what), 0);
        }
        d.due("told(0, 0) of a new one", x.told(0, 0), BAD);
        d.due("folk(0, 0) of a new one", x.folk(0, 0), BAD);
        d.due("back() of a new one", x.back(), -1000000002);
        d.due("fee() of a new one", x.fee(), 0);
        for (int i = 0; i < 4; i++) {
            d.due("reads(" + i + ") of a new one", x.reads(i), NOTHING);
        }
        for (int i = 0; i < 5; i++) {
            d.due("rest(" + i + ", 1) of a new one", x.rest(i, 1), NOTHING);
        }
        for (int key = 0; key < 3; key++) {
            d.due("why(" + key + ") of a new one", x.why(key), NONE);
        }
        BedsArePlaces y = new BedsArePlaces();
        y.bed(1, 2, 3, 4);
        y.keep();
        d.due("count(0), another one has a bed", x.count(0), 0);
    }

    private static void bed() {
        d.promise(2);
        BedsArePlaces x = new BedsArePlaces();
        for (int i = 0; i < 10; i++) {
            if (i == 5) {
                String was = Due.all(x);
                for (int wild : WILD) {
                    d.due("bed(" + wild + ", 0, 0, 0)", x.bed(wild, 0, 0, 0), BAD);
                    if (wild != 6) {
                        d.due("bed(0, " + wild + ", 0, 0)", x.bed(0, wild, 0, 0), BAD);
                        d.due("bed(0, 0, " + wild + ", 0)", x.bed(0, 0, wild, 0), BAD);
                        d.due("bed(0, 0, 0, " + wild + ")", x.bed(0, 0, 0, wild), BAD);
                    }
                }
                d.holds("what is refused changes nothing", was.equals(Due.all(x)));
            }
            d.due("bed number " + i, x.bed(i % 6, i % 8, 7 - i % 8, (i + 3) % 8), i);
        }
        d.due("the eleventh", x.bed(0, 0, 0, 0), FULL);
        d.due("the eleventh, of no kind", x.bed(6, 0, 0, 0), BAD);
        d.due("the eleventh, nowhere", x.bed(0, 8, 0, 0), BAD);
        d.due("count(0)", x.count(0), 10);
        for (int i = 0; i < 10; i++) {
            d.due("kind of " + i, x.told(i, 0), i % 6);
            d.due("at of " + i, x.told(i, 1), i % 8);
            d.due("to of " + i, x.told(i, 2), 7 - i % 8);
            d.due("other of " + i, x.told(i, 3), (i + 3) % 8);
        }
    }

    private static void told() {
        d.promise(3);
        BedsArePlaces x = withOneOfEachKind();
        d.due("told(-1, 0)", x.told(-1, 0), BAD);
        d.due("told(6, 0)", x.told(6, 0), BAD);
        d.due("told(10, 0)", x.told(10, 0), BAD);
        d.due("told(MAX, 0)", x.told(Integer.MAX_VALUE, 0), BAD);
        d.due("told(MIN, 0)", x.told(Integer.MIN_VALUE, 0), BAD);
        d.due("told(0, -1)", x.told(0, -1), BAD);
        d.due("told(0, 9)", x.told(0, 9), BAD);
        d.due("told(0, MIN)", x.told(0, Integer.MIN_VALUE), BAD);
    }

    private static void toldOfEachKind() {
        BedsArePlaces x = withOneOfEachKind();
        // kind, at, to, other, wide, takes one, takes two (the night is 0), leads, worth
        int[][] rows = {
            {0, 0, 7, 3, 2, 7, 7, 1 << 7, 7},
            {1, 1, 6, 3, 2, 1, 6, 1 << 6, 5 + 5},
            {2, 2, 5, 3, 1, 5, 5, 1 << 5, 9 - 3},
            {3, 3, 4, 3, 2, 4, 4, 1 << 4, 2 * (1 + 5)},
            {4, 4, 3, 3, 3, 3, 3, 1 << 3, 9 - 1 + 3},
            {5, 5, 2, 3, 4, 2, 2, 1 << 2, 1},
        };
        for (int b = 0; b < 6; b++) {
            for (int what = 0; what < 9; what++) {
                d.due("told(" + b + ", " + what + ")", x.told(b, what), rows[b][what]);
            }
        }
        x.set(4, 3, 6);
        d.due("a sawn one leads to both", x.told(4, 7), 1 << 3 | 1 << 6);
        d.due("a sawn one's worth", x.told(4, 8), 9 - 1 + 6);
        x.nights(1);
        d.due("a sawn one takes to other by odd nights", x.told(4, 5), 6);
        d.due("two too", x.told(4, 6), 6);
        x.nights(1);
        d.due("and to its own by even ones", x.told(4, 5), 3);
    }

    private static void as() {
        d.promise(4);
        boolean[][] is = {
            {true, false, false, false, false, false},
            {true, true, false, false, false, false},
            {true, false, true, false, false, false},
            {true, true, false, true, false, false},
            {true, false, true, false, true, false},
            {true, false, false, false, false, true},
        };
        BedsArePlaces x = withOneOfEachKind();
        for (int b = 0; b < 6; b++) {
            for (int kind = 0; kind < 6; kind++) {
                d.due("as(" + b + ", " + kind + ")", x.as(b, kind), is[b][kind] ? 7 - b : KIND);
            }
        }
        for (int wild : WILD) {
            d.due("as(" + wild + ", 0)", x.as(wild, 0), BAD);
            d.due("as(0, " + wild + ")", x.as(0, wild), BAD);
        }
    }

    private static void turns() {
        d.promise(5);
        BedsArePlaces x = withOneOfEachKind();
        d.due("turns(2, 4)", x.turns(2, 4), 2);
        d.due("turns(2, 5)", x.turns(2, 5), 4);
        d.due("turns(2, 5) again", x.turns(2, 5), 5);
        d.due("told(2, 0)", x.told(2, 0), 5);
        d.due("told(2, 4)", x.told(2, 4), 4);
        d.due("told(2, 1)", x.told(2, 1), 2);
        d.due("told(2, 2)", x.told(2, 2), 5);
        d.due("told(2, 3)", x.told(2, 3), 3);
        d.due("told(1, 0)", x.told(1, 0), 1);
        String was = Due.all(x);
        for (int wild : WILD) {
            d.due("turns(" + wild + ", 0)", x.turns(wild, 0), BAD);
            d.due("turns(0, " + wild + ")", x.turns(0, wild), BAD);
        }
        d.holds("what is refused changes nothing", was.equals(Due.all(x)));
    }

    private static void set() {
        d.promise(6);
        BedsArePlaces x = withOneOfEachKind();
        d.due("set(1, 1, 7)", x.set(1, 1, 7), 1);
        d.due("set(1, 2, 0)", x.set(1, 2, 0), 6);
        d.due("set(1, 3, 5)", x.set(1, 3, 5), 3);
        d.due("told(1, 0)", x.told(1, 0), 1);
        d.due("told(1, 1)", x.told(1, 1), 7);
        d.due("told(1, 2)", x.told(1, 2), 0);
        d.due("told(1, 3)", x.told(1, 3), 5);
        d.due("told(0, 1)", x.told(0, 1), 0);
        String was = Due.all(x);
        int[] noWhat = {0, 4, -1, Integer.MIN_VALUE, Integer.MAX_VALUE};
        for (int what : noWhat) {
            d.due("set(0, " + what + ", 0)", x.set(0, what, 0), BAD);
        }
        for (int wild : WILD) {
            d.due("set(" + wild + ", 1, 0)", x.set(wild, 1, 0), BAD);
            if (wild != 6) {
                d.due("set(0, 1, " + wild + ")", x.set(0, 1, wild), BAD);
                d.due("set(0, 2, " + wild + ")", x.set(0, 2, wild), BAD);
                d.due("set(0, 3, " + wild + ")", x.set(0, 3, wild), BAD);
            }
        }
        d.holds("what is refused changes nothing", was.equals(Due.all(x)));
    }

    private static void carry() {
        d.promise(7);
        BedsArePlaces x = new BedsArePlaces();
        d.due("carry(0)", x.carry(0), 20);
        d.due("carry(100)", x.carry(100), 0);
        d.due("carry(101)", x.carry(101), BAD);
        d.due("carry(-1)", x.carry(-1), BAD);
        d.due("carry(MIN)", x.carry(Integer.MIN_VALUE), BAD);
        d.due("carry(MAX)", x.carry(Integer.MAX_VALUE), BAD);
        d.due("count(2)", x.count(2), 100);
        d.due("carry(3)", x.carry(3), 100);
    }

    private static void deal() {
        d.promise(8);
        BedsArePlaces x = new BedsArePlaces();
        d.due("deal(0)", x.deal(0), BAD);
        d.due("deal(11)", x.deal(11), BAD);
        d.due("deal(-1)", x.deal(-1), BAD);
        d.due("deal(MIN)", x.deal(Integer.MIN_VALUE), BAD);
        d.due("z, none was drawn", x.count(7), 1);
        d.due("deal(1)", x.deal(1), 1);
        d.due("deal(6)", x.deal(6), 6);
        d.due("deal(7), room for three", x.deal(7), 3);
        int z = x.count(7);
        d.due("deal(10), no room", x.deal(10), 0);
        d.due("deal(11), no room", x.deal(11), BAD);
        d.due("z, none was drawn", x.count(7), z);
        d.due("count(0)", x.count(0), 10);
        BedsArePlaces y = new BedsArePlaces();
        d.due("deal(10)", y.deal(10), 10);
        d.due("z, as many were drawn", y.count(7), z);
    }

    private static void dealDrawsAsTold() {
        BedsArePlaces x = new BedsArePlaces();
        x.seed(-77);
        x.deal(10);
        int z = -77;
        int[] most = {6, 8, 8, 8};
        for (int b = 0; b < 10; b++) {
            for (int what = 0; what < 4; what++) {
                z = z * 1103515245 + 12345;
                d.due("told(" + b + ", " + what + "), drawn", x.told(b, what), (z >>> 8) % most[what]);
            }
        }
        d.due("z behind forty draws", x.count(7), z);
    }

    private static void seed() {
        d.promise(9);
        BedsArePlaces x = new BedsArePlaces();
        d.due("seed(MIN)", x.seed(Integer.MIN_VALUE), 1);
        d.due("seed(MAX)", x.seed(Integer.MAX_VALUE), Integer.MIN_VALUE);
        d.due("seed(0)", x.seed(0), Integer.MAX_VALUE);
        d.due("seed(BAD)", x.seed(BAD), 0);
        d.due("count(7)", x.count(7), BAD);
    }
}
