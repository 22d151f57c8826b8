/** Promises 10 to 15: folk, nights. */
public final class FolkTest {
    private static final int BAD = -1000000001, FULL = -1000000003;
    private static final int[] WILD = {-1, 8, 9, 100, Integer.MIN_VALUE, Integer.MAX_VALUE};
    private static final Due d = new Due("FolkTest");

    public static void main(String[] args) {
        one();
        folk();
        folkHours();
        sends();
        who();
        aNightInEachKind();
        anEmptyHammock();
        aNightByWidth();
        aNightByNumbers();
        aNightOfHours();
        aNightCarries();
        theLastNight();
        nightsRefused();
        land();
        d.end();
    }

    private static BedsArePlaces still() {
        BedsArePlaces x = new BedsArePlaces();
        x.carry(0);
        return x;
    }

    private static void one() {
        d.promise(10);
        BedsArePlaces x = new BedsArePlaces();
        for (int i = 0; i < 9; i++) {
            for (int wild : WILD) {
                d.due("one(" + wild + ", 0)", x.one(wild, 0), BAD);
                d.due("one(0, " + wild + ")", x.one(0, wild), BAD);
            }
            d.due("one number " + i, x.one(i % 8, 7 - i % 8), i);
        }
        d.due("the tenth", x.one(0, 0), FULL);
        d.due("the tenth, nowhere", x.one(8, 0), BAD);
        d.due("the tenth, of nowhere", x.one(0, -1), BAD);
        d.due("count(3)", x.count(3), 9);
        for (int i = 0; i < 9; i++) {
            d.due("town of " + i, x.folk(i, 0), i % 8);
            d.due("home of " + i, x.folk(i, 1), 7 - i % 8);
        }
    }

    private static void folk() {
        d.promise(11);
        BedsArePlaces x = new BedsArePlaces();
        x.one(3, 4);
        int[] due = {3, 4, 0, 0, 1};
        for (int what = 0; what < 5; what++) {
            d.due("folk(0, " + what + ")", x.folk(0, what), due[what]);
        }
        d.due("folk(0, 5)", x.folk(0, 5), BAD);
        d.due("folk(0, -1)", x.folk(0, -1), BAD);
        d.due("folk(0, MIN)", x.folk(0, Integer.MIN_VALUE), BAD);
        d.due("folk(1, 0)", x.folk(1, 0), BAD);
        d.due("folk(-1, 0)", x.folk(-1, 0), BAD);
        d.due("folk(9, 0)", x.folk(9, 0), BAD);
        d.due("folk(MAX, 0)", x.folk(Integer.MAX_VALUE, 0), BAD);
    }

    private static void folkHours() {
        BedsArePlaces x = new BedsArePlaces();
        x.one(3, 4);
        x.one(3, 4);
        x.one(3, 4);
        x.one(5, 4);
        x.sends(0, 2, 4);
        x.sends(2, 3, 1);
        Due.text(x, "hours t");
        d.due("folk(0, 4) by t", x.folk(0, 4), 4);
        d.due("folk(1, 4) by t", x.folk(1, 4), 0);
        Due.text(x, "hours n+2");
        d.due("folk(1, 4) by n+2", x.folk(1, 4), 2);
        x.nights(3);
        d.due("folk(1, 4) by n+2, three nights on", x.folk(1, 4), 5);
        Due.text(x, "hours w");
        d.due("folk(0, 4) by w: two are not gone", x.folk(0, 4), 2);
        d.due("folk(2, 4) by w: gone, not counted", x.folk(2, 4), 2);
        d.due("folk(3, 4) by w", x.folk(3, 4), 1);
        Due.text(x, "hours 10");
        d.due("folk(0, 4) by 10, held", x.folk(0, 4), 9);
        Due.text(x, "hours 0-1");
        d.due("folk(0, 4) by -1, held", x.folk(0, 4), 0);
        Due.text(x, "fee 7");
        d.due("folk(0, 4), fee does not count for it", x.folk(0, 4), 0);
    }

    private static void sends() {
        d.promise(12);
        BedsArePlaces x = new BedsArePlaces();
        x.one(1, 2);
        x.one(1, 2);
        d.due("sends(0, 0, 7)", x.sends(0, 0, 7), 1);
        d.due("sends(0, 1, 0)", x.sends(0, 1, 0), 2);
        d.due("sends(0, 2, 9)", x.sends(0, 2, 9), 0);
        d.due("sends(0, 3, 1)", x.sends(0, 3, 1), 0);
        int[] due = {7, 0, 9, 1};
        for (int what = 0; what < 4; what++) {
            d.due("folk(0, " + what + ")", x.folk(0, what), due[what]);
            d.due("sends(0, " + what + ", 0)", x.sends(0, what, 0), due[what]);
        }
        d.due("folk(1, 0)", x.folk(1, 0), 1);
        String was = Due.all(x);
        int[] above = {8, 8, 10, 2};
        for (int what = 0; what < 4; what++) {
            d.due("sends(0, " + what + ", " + above[what] + ")", x.sends(0, what, above[what]), BAD);
            d.due("sends(0, " + what + ", -1)", x.sends(0, what, -1), BAD);
            d.due("sends(0, " + what + ", MIN)", x.sends(0, what, Integer.MIN_VALUE), BAD);
            d.due("sends(0, " + what + ", MAX)", x.sends(0, what, Integer.MAX_VALUE), BAD);
        }
        d.due("sends(0, 4, 0)", x.sends(0, 4, 0), BAD);
        d.due("sends(0, -1, 0)", x.sends(0, -1, 0), BAD);
        d.due("sends(2, 0, 0)", x.sends(2, 0, 0), BAD);
        d.due("sends(-1, 0, 0)", x.sends(-1, 0, 0), BAD);
        d.holds("what is refused changes nothing", was.equals(Due.all(x)));
    }

    private static void who() {
        d.promise(13);
        BedsArePlaces x = new BedsArePlaces();
        d.due("who(0), no folk", x.who(0), 0);
        x.one(1, 0);
        x.one(2, 0);
        x.one(1, 0);
        for (int i = 0; i < 6; i++) {
            x.one(7, 0);
        }
        x.sends(2, 3, 1);
        d.due("who(1), one of them gone", x.who(1), 5);
        d.due("who(2)", x.who(2), 2);
        d.due("who(0), home is not where one is", x.who(0), 0);
        d.due("who(7)", x.who(7), 0x1F8);
        for (int wild : WILD) {
            d.due("who(" + wild + ")", x.who(wild), BAD);
        }
    }

    private static void towns(BedsArePlaces x, String when, int... towns) {
        for (int i = 0; i < towns.length; i++) {
            d.due("town of " + i + " " + when, x.folk(i, 0), towns[i]);
        }
    }

    private static void aNightInEachKind() {
        d.promise(14);
        BedsArePlaces x = still();
        x.bed(0, 0, 1, 0);
        x.bed(1, 1, 2, 0);
        x.bed(2, 2, 3, 0);
        x.bed(3, 3, 4, 0);
        x.bed(4, 4, 5, 6);
        x.bed(5, 5, 6, 0);
        for (int i = 0; i < 6; i++) {
            x.one(i, 7);
            x.sends(i, 2, 5);
        }
        d.due("nights(1)", x.nights(1), 6);
        towns(x, "behind a night", 1, 1, 3, 4, 5, 6);
        d.due("gone", x.land(5), 1 << 5);
        d.due("lost", x.land(2), 1);
        d.due("the hammock swayed", x.told(3, 1), 4);
        d.due("and belongs where it stood", x.told(3, 2), 3);
        d.due("tired no more", x.folk(0, 2), 0);
        d.due("in the double, that took one nowhere, neither", x.folk(1, 2), 0);
        // Two are in the double now; the hammock, at 4 ahead of the sawn one, swings one back; 3 is without a bed.
        d.due("nights(1) again", x.nights(1), 4);
        towns(x, "behind two nights", 2, 2, 3, 3, 6, 6);
        d.due("slept", x.land(0), 10);
        d.due("awake", x.land(1), 1);
        d.due("the hammock swayed back", x.told(3, 1), 3);
        d.due("the night", x.count(1), 2);
    }

    private static void anEmptyHammock() {
        BedsArePlaces x = still();
        x.bed(3, 0, 5, 0);
        x.one(1, 1);
        x.nights(1);
        d.due("a hammock that is empty does not sway", x.told(0, 1), 0);
        x.sends(0, 0, 0);
        x.bed(0, 5, 0, 0);
        x.nights(1);
        d.due("it sways", x.told(0, 1), 5);
        d.due("who woke at 5", x.folk(0, 0), 5);
        x.one(5, 0);
        x.nights(1);
        d.due("it sways once, though two lie in it", x.told(0, 1), 0);
        d.due("one", x.folk(0, 0), 0);
        d.due("and the other one", x.folk(1, 0), 0);
    }

    private static void aNightByWidth() {
        int[] wide = {2, 2, 1, 2, 3, 4};
        for (int kind = 0; kind < 6; kind++) {
            BedsArePlaces x = still();
            x.bed(kind, 0, 1, 2);
            for (int i = 0; i < 5; i++) {
                x.one(0, 7);
            }
            d.due("nights(1), kind " + kind, x.nights(1), wide[kind]);
            for (int i = 0; i < 5; i++) {
                d.due("town of " + i + ", kind " + kind, x.folk(i, 0), i < wide[kind] ? 1 : 0);
                d.due("tired of " + i + ", kind " + kind, x.folk(i, 2), i < wide[kind] ? 0 : 1);
                d.due("gone of " + i + ", kind " + kind, x.folk(i, 3), i < wide[kind] && kind == 5 ? 1 : 0);
            }
            d.due("awake, kind " + kind, x.land(1), 5 - wide[kind]);
        }
    }

    private static void aNightByNumbers() {
        BedsArePlaces x = still();
        x.bed(0, 1, 6, 0);
        x.bed(2, 0, 1, 0);
        x.bed(2, 0, 2, 0);
        x.bed(0, 0, 3, 0);
        for (int i = 0; i < 6; i++) {
            x.one(0, 0);
        }
        x.sends(1, 3, 1);
        d.due("nights(1)", x.nights(1), 4);
        // Number 1 is gone and needs no bed; nobody who wakes at 1 goes on to 6 in the same night.
        towns(x, "behind a night", 1, 0, 2, 3, 3, 0);
        d.due("awake: who is gone is not", x.land(1), 1);
        d.due("who is gone does not tire", x.folk(1, 2), 0);
        for (int i = 0; i < 12; i++) {
            x.nights(1);
        }
        d.due("nobody is above nine tired", x.folk(5, 2), 9);
        // Number 5 woke at 1 in the second night and at 6 in the third, number 0 at 6 in the second.
        d.due("awake", x.land(1), 1 + 11 + 3 * 12 + 10);
    }

    private static void aNightOfHours() {
        BedsArePlaces x = still();
        x.bed(5, 0, 0, 0);
        x.turns(0, 0);
        x.one(0, 0);
        x.one(0, 1);
        Due.text(x, "hours t>2");
        d.due("nights(3), none wants to", x.nights(3), 0);
        d.due("tired", x.folk(0, 2), 3);
        d.due("nights(1), both are tired", x.nights(1), 2);
        d.due("nights(4), once in four nights each", x.nights(4), 2);
        Due.text(x, "hours 0-5");
        d.due("nights(5) by less than none", x.nights(5), 0);
        Due.text(x, "hours n/14");
        d.due("nights(2) by the night: 13, 14", x.nights(2), 2);
        Due.text(x, "hours w=1");
        d.due("nights(1), two are here", x.nights(1), 0);
        x.sends(1, 3, 1);
        d.due("nights(1), one is", x.nights(1), 1);
    }

    private static void aNightCarries() {
        BedsArePlaces x = new BedsArePlaces();
        x.bed(0, 0, 1, 0);
        x.bed(0, 0, 1, 0);
        x.bed(0, 0, 1, 0);
        x.carry(50);
        int z = 1;
        int carried = 0;
        int[] at = {0, 0, 0};
        for (int i = 0; i < 40; i++) {
            x.nights(1);
            z = z * 1103515245 + 12345;
            if ((z >>> 8) % 100 < 50) {
                z = z * 1103515245 + 12345;
                int bed = (z >>> 8) % 3;
                z = z * 1103515245 + 12345;
                at[bed] = (z >>> 8) % 8;
                carried++;
            }
            d.due("z behind " + i, x.count(7), z);
            for (int b = 0; b < 3; b++) {
                d.due("at of " + b + " behind " + i, x.told(b, 1), at[b]);
            }
        }
        d.due("carried", x.land(3), carried);
        BedsArePlaces none = new BedsArePlaces();
        none.carry(100);
        none.nights(1);
        d.due("z, one draw without beds", none.count(7), 1103515245 + 12345);
        d.due("carried, no beds", none.land(3), 0);
        BedsArePlaces never = new BedsArePlaces();
        never.carry(0);
        never.bed(0, 0, 0, 0);
        never.nights(100);
        d.due("carried, at 0 of 100", never.land(3), 0);
        BedsArePlaces always = new BedsArePlaces();
        always.carry(100);
        always.bed(0, 0, 0, 0);
        always.nights(100);
        d.due("carried, at 100 of 100", always.land(3), 100);
    }

    private static void theLastNight() {
        BedsArePlaces x = still();
        x.bed(0, 0, 0, 0);
        x.one(0, 0);
        for (int i = 0; i < 99; i++) {
            x.nights(100);
        }
        d.due("nights(100), 99 are left", x.nights(100), 99);
        d.due("the last night", x.count(1), 9999);
        int z = x.count(7);
        d.due("nights(1), none is left", x.nights(1), 0);
        d.due("still the last night", x.count(1), 9999);
        d.due("slept", x.land(0), 9999);
        d.due("z, no draw", x.count(7), z);
        d.due("behind(100, 0), thought goes on", x.behind(100, 0), 10099);
    }

    private static void nightsRefused() {
        BedsArePlaces x = new BedsArePlaces();
        x.one(0, 0);
        String was = Due.all(x);
        int[] no = {0, -1, 101, Integer.MIN_VALUE, Integer.MAX_VALUE};
        for (int n : no) {
            d.due("nights(" + n + ")", x.nights(n), BAD);
        }
        d.holds("what is refused changes nothing", was.equals(Due.all(x)));
        d.due("nights(100)", x.nights(100), 0);
        d.due("count(1)", x.count(1), 100);
    }

    private static void land() {
        d.promise(15);
        BedsArePlaces x = still();
        x.bed(5, 2, 3, 0);
        x.one(2, 3);
        x.one(2, 2);
        x.one(1, 0);
        x.one(4, 4);
        x.nights(2);
        int[] due = {2, 4, 2, 0, 1 << 0 | 1 << 3, 1 << 0 | 1 << 1, 4};
        for (int what = 0; what < 7; what++) {
            d.due("land(" + what + ")", x.land(what), due[what]);
        }
        d.due("land(-1)", x.land(-1), BAD);
        d.due("land(7)", x.land(7), BAD);
        d.due("land(MAX)", x.land(Integer.MAX_VALUE), BAD);
        d.due("land(MIN)", x.land(Integer.MIN_VALUE), BAD);
        x.carry(100);
        x.nights(5);
        d.due("land(3)", x.land(3), 5);
        x.sends(3, 3, 1);
        d.due("who is gone is at home yet, where its town is", x.land(4), 1 << 0 | 1 << 3);
    }
}
