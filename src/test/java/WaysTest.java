/** Promises 16 to 19: ways. */
public final class WaysTest {
    private static final int BAD = -1000000001, NONE = -1000000005;
    private static final int[] WILD = {-1, 8, 31, 32, 100, Integer.MIN_VALUE, Integer.MAX_VALUE};
    private static final Due d = new Due("WaysTest");

    public static void main(String[] args) {
        reach();
        way();
        lacks();
        lacksByTrying();
        missed();
        d.end();
    }

    private static BedsArePlaces ring(int towns) {
        BedsArePlaces x = new BedsArePlaces();
        for (int i = 0; i < towns; i++) {
            x.bed(0, i, (i + 1) % towns, 0);
        }
        return x;
    }

    private static void reach() {
        d.promise(16);
        BedsArePlaces x = new BedsArePlaces();
        for (int town = 0; town < 8; town++) {
            d.due("reach(" + town + "), no beds", x.reach(town), 1 << town);
        }
        for (int i = 0; i < 7; i++) {
            // From last to first, so that one look over the beds does not do.
            x.bed(i % 3, 6 - i, 7 - i, 0);
        }
        for (int town = 0; town < 8; town++) {
            d.due("reach(" + town + "), a row", x.reach(town), 256 - (1 << town));
        }
        x.bed(4, 7, 7, 2);
        d.due("reach(7), by a sawn one's other", x.reach(7), 0xFC);
        x.set(7, 2, 1);
        d.due("reach(7), by its own", x.reach(7), 0xFE);
        x.turns(7, 2);
        d.due("reach(7), no longer sawn", x.reach(7), 0xFE);
        x.set(7, 2, 7);
        d.due("reach(7), it leads nowhere else", x.reach(7), 0x80);
        x.carry(0);
        x.turns(0, 3);
        x.one(6, 0);
        x.nights(1);
        d.due("reach(6), the hammock swayed", x.reach(6), 0x40);
        d.due("reach(7), as they stand now", x.reach(7), 0xC0);
        for (int wild : WILD) {
            d.due("reach(" + wild + ")", x.reach(wild), BAD);
        }
    }

    private static void way() {
        d.promise(17);
        BedsArePlaces x = ring(8);
        for (int from = 0; from < 8; from++) {
            for (int to = 0; to < 8; to++) {
                d.due("way(" + from + ", " + to + ")", x.way(from, to), (to - from + 8) % 8);
            }
        }
        x.bed(4, 0, 3, 5);
        d.due("way(0, 4)", x.way(0, 4), 2);
        d.due("way(0, 6)", x.way(0, 6), 2);
        d.due("way(7, 5)", x.way(7, 5), 2);
        x.set(1, 1, 3);
        d.due("way(1, 2), nothing stands there", x.way(1, 2), NONE);
        d.due("way(1, 1)", x.way(1, 1), 0);
        for (int wild : WILD) {
            d.due("way(" + wild + ", 0)", x.way(wild, 0), BAD);
            d.due("way(0, " + wild + ")", x.way(0, wild), BAD);
            d.due("way(" + wild + ", " + wild + ")", x.way(wild, wild), BAD);
        }
    }

    private static void lacks() {
        d.promise(18);
        BedsArePlaces x = new BedsArePlaces();
        d.due("lacks(), no beds", x.lacks(), 8);
        x.bed(0, 0, 0, 0);
        d.due("lacks(), a bed to its own town", x.lacks(), 8);
        int[] due = {7, 6, 5, 4, 3, 2, 1, 0};
        BedsArePlaces y = new BedsArePlaces();
        for (int i = 0; i < 8; i++) {
            y.bed(0, i, (i + 1) % 8, 0);
            d.due("lacks(), " + (i + 1) + " of a ring", y.lacks(), due[i]);
        }
        d.due("lacks(), a ring of 3 and five alone", ring(3).lacks(), 6);
        BedsArePlaces star = new BedsArePlaces();
        for (int i = 1; i < 8; i++) {
            star.bed(0, 0, i, 0);
        }
        d.due("lacks(), out of one", star.lacks(), 7);
        BedsArePlaces in = new BedsArePlaces();
        for (int i = 1; i < 8; i++) {
            in.bed(0, i, 0, 0);
        }
        d.due("lacks(), into one", in.lacks(), 7);
        BedsArePlaces sawn = new BedsArePlaces();
        sawn.bed(4, 0, 1, 2);
        sawn.bed(4, 1, 3, 4);
        sawn.bed(4, 2, 5, 6);
        sawn.bed(0, 3, 7, 0);
        d.due("lacks(), four ends", sawn.lacks(), 4);
        sawn.bed(0, 7, 0, 0);
        d.due("lacks(), three ends", sawn.lacks(), 3);
        BedsArePlaces two = new BedsArePlaces();
        for (int i = 0; i < 4; i++) {
            two.bed(0, i, (i + 1) % 4, 0);
            two.bed(0, 4 + i, 4 + (i + 1) % 4, 0);
        }
        d.due("lacks(), two rings", two.lacks(), 2);
        two.bed(0, 1, 6, 0);
        d.due("lacks(), two rings, one way between them", two.lacks(), 1);
        two.bed(0, 7, 2, 0);
        d.due("lacks(), both ways", two.lacks(), 0);
    }

    /** That so many beds more do, and one less does not, is tried with all beds that there may be. */
    private static void lacksByTrying() {
        int z = 99;
        int[] seen = new int[9];
        for (int run = 0; run < 400; run++) {
            int[] leads = new int[8];
            BedsArePlaces x = new BedsArePlaces();
            z = z * 1103515245 + 12345;
            int beds = 5 + (z >>> 8) % 6;
            for (int b = 0; b < beds; b++) {
                z = z * 1103515245 + 12345;
                int kind = (z >>> 8) % 2 * 4;
                z = z * 1103515245 + 12345;
                int at = (z >>> 8) % 8;
                z = z * 1103515245 + 12345;
                int to = (z >>> 8) % 8;
                z = z * 1103515245 + 12345;
                int other = (z >>> 8) % 8;
                x.bed(kind, at, to, other);
                leads[at] |= 1 << to | (kind == 4 ? 1 << other : 0);
            }
            int lacks = x.lacks();
            if (lacks >= 0 && lacks <= 3) {
                seen[lacks]++;
                d.holds("run " + run + ": " + lacks + " more do", canJoin(leads, lacks));
                d.holds("run " + run + ": one less than " + lacks + " does not", lacks == 0 || !canJoin(leads, lacks - 1));
            } else {
                d.holds("run " + run + ": three do not, where " + lacks + " lack", !canJoin(leads, 2));
            }
        }
        d.holds("some lacked 1, 2, 3", seen[1] > 0 && seen[2] > 0 && seen[3] > 0);
    }

    private static boolean canJoin(int[] leads, int more) {
        if (more == 0) {
            return joined(leads);
        }
        for (int at = 0; at < 8; at++) {
            for (int to = 0; to < 8; to++) {
                if (at != to && (leads[at] >> to & 1) == 0) {
                    int was = leads[at];
                    leads[at] |= 1 << to;
                    boolean can = canJoin(leads, more - 1);
                    leads[at] = was;
                    if (can) {
                        return true;
                    }
                }
            }
        }
        return false;
    }

    private static boolean joined(int[] leads) {
        for (int from = 0; from < 8; from++) {
            int set = 1 << from;
            for (int i = 0; i < 8; i++) {
                for (int t = 0; t < 8; t++) {
                    if ((set >> t & 1) != 0) {
                        set |= leads[t];
                    }
                }
            }
            if (set != 255) {
                return false;
            }
        }
        return true;
    }

    private static void missed() {
        d.promise(19);
        BedsArePlaces x = new BedsArePlaces();
        d.due("missed(0), no beds", x.missed(0), NONE);
        d.due("missed(1), no beds", x.missed(1), NONE);
        d.due("missed(2), no beds", x.missed(2), BAD);
        d.due("missed(-1)", x.missed(-1), BAD);
        d.due("missed(MAX)", x.missed(Integer.MAX_VALUE), BAD);
        x.bed(0, 0, 0, 0);
        d.due("missed(0), it leads nowhere", x.missed(0), 0);
        d.due("missed(1), each town reaches itself", x.missed(1), 8);
        x.bed(0, 0, 1, 0);
        d.due("missed(0)", x.missed(0), 1);
        d.due("missed(1)", x.missed(1), 8);
        x.bed(0, 1, 2, 0);
        // 0, 1, 2 in a row: without either bed one way is left.
        d.due("missed(0), of several the least", x.missed(0), 1);
        d.due("missed(1)", x.missed(1), 9);
        x.bed(0, 2, 3, 0);
        d.due("missed(0), the one in the middle", x.missed(0), 2);
        d.due("missed(1)", x.missed(1), 10);
        x.bed(0, 1, 2, 0);
        // It stands twice: each of the two is not missed, the others: 3 ways are lost by each.
        d.due("missed(0), one that stands twice", x.missed(0), 1);
        d.due("missed(1)", x.missed(1), 11);
        x.bed(4, 3, 4, 5);
        d.due("missed(0), a sawn one", x.missed(0), 3);
        d.due("missed(1)", x.missed(1), 8 + 3 + 2);
    }
}
