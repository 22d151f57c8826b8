import java.util.ArrayList;
import java.util.List;

/** Promises 20 to 27: what will be. */
public final class ThoughtTest {
    private static final int BAD = -1000000001, NONE = -1000000005, NOTHING = -1000000011;
    private static final Due d = new Due("ThoughtTest");

    public static void main(String[] args) {
        behind();
        behindIsWhatComes();
        home();
        brought();
        broughtIsTheSoonest();
        belongs();
        becomes();
        whose();
        fee();
        fine();
        nothingChanges();
        d.end();
    }

    private static BedsArePlaces still() {
        BedsArePlaces x = new BedsArePlaces();
        x.carry(0);
        return x;
    }

    /** A busy land: beds of all kinds, nine folk, laws, carrying. */
    private static BedsArePlaces busy(int seed) {
        BedsArePlaces x = new BedsArePlaces();
        x.seed(seed);
        x.deal(10);
        for (int b = 0; b < 10; b++) {
            if (x.told(b, 0) == 5) {
                x.turns(b, b % 5);
            }
        }
        for (int i = 0; i < 9; i++) {
            x.one((i * 5 + seed) & 7, (i * 3) & 7);
        }
        Due.text(x, "hours t*2+w>n/40");
        x.carry(30);
        x.nights(3);
        return x;
    }

    private static void behind() {
        d.promise(20);
        BedsArePlaces x = still();
        for (int what = 0; what < 3; what++) {
            d.due("behind(5, " + what + "), no folk", x.behind(5, what), 0);
        }
        d.due("behind(5, 3), no folk", x.behind(5, 3), BAD);
        x.bed(0, 0, 1, 0);
        x.bed(0, 1, 2, 0);
        x.one(0, 1);
        x.one(1, 2);
        d.due("behind(0, 2)", x.behind(0, 2), 0);
        d.due("behind(1, 2)", x.behind(1, 2), 3);
        d.due("behind(2, 2)", x.behind(2, 2), 2);
        d.due("behind(0, 3)", x.behind(0, 3), 0);
        d.due("behind(1, 3)", x.behind(1, 3), 1);
        d.due("behind(100, 3)", x.behind(100, 3), 2);
        d.due("behind(100, 4)", x.behind(100, 4), 2);
        d.due("behind(100, 0)", x.behind(100, 0), 3);
        d.due("behind(100, 1)", x.behind(100, 1), 197);
        x.nights(1);
        d.due("behind(0, 0), what slept already", x.behind(0, 0), 2);
        d.due("behind(1, 0)", x.behind(1, 0), 3);
        d.due("behind(1, 1)", x.behind(1, 1), 1);
        int[] noNights = {-1, 101, Integer.MIN_VALUE, Integer.MAX_VALUE};
        for (int n : noNights) {
            d.due("behind(" + n + ", 0)", x.behind(n, 0), BAD);
        }
        int[] noWhat = {-1, 5, 12, Integer.MIN_VALUE, Integer.MAX_VALUE};
        for (int what : noWhat) {
            d.due("behind(0, " + what + ")", x.behind(0, what), BAD);
        }
    }

    private static void behindIsWhatComes() {
        for (int seed = 0; seed < 8; seed++) {
            BedsArePlaces x = busy(seed * 7919);
            int[] thought = new int[12];
            for (int what = 0; what < 12; what++) {
                thought[what] = x.behind(17, what);
            }
            x.nights(17);
            d.due("slept behind 17", thought[0], x.land(0));
            d.due("awake behind 17", thought[1], x.land(1));
            d.due("at home behind 17", thought[2], x.land(4));
            for (int i = 0; i < 9; i++) {
                d.due("town of " + i + " behind 17", thought[3 + i], x.folk(i, 0));
            }
        }
    }

    private static void home() {
        d.promise(21);
        BedsArePlaces x = still();
        for (int i = 0; i < 7; i++) {
            x.bed(0, i, i + 1, 0);
        }
        x.one(0, 7);
        x.one(7, 7);
        x.one(5, 4);
        d.due("home(0)", x.home(0), 7);
        d.due("home(1), there already", x.home(1), 0);
        d.due("home(2), never", x.home(2), NONE);
        d.due("home(3)", x.home(3), BAD);
        d.due("home(-1)", x.home(-1), BAD);
        d.due("home(MAX)", x.home(Integer.MAX_VALUE), BAD);
        Due.text(x, "hours n=199");
        x.sends(0, 0, 6);
        d.due("home(0), in the last of 200 nights", x.home(0), 200);
        Due.text(x, "hours n=200");
        d.due("home(0), one later", x.home(0), NONE);
        x.nights(1);
        d.due("home(0), one night on", x.home(0), 200);
        x.sends(0, 3, 1);
        d.due("home(0), gone", x.home(0), NONE);
        x.sends(0, 0, 7);
        d.due("home(0), gone, and there", x.home(0), 0);
    }

    private static void brought() {
        d.promise(22);
        BedsArePlaces x = still();
        x.one(0, 5);
        x.one(3, 3);
        for (int what = 0; what < 3; what++) {
            d.due("brought(0, " + what + "), no beds", x.brought(0, what), NONE);
            d.due("brought(1, " + what + "), at home, no beds", x.brought(1, what), NONE);
        }
        x.bed(0, 6, 4, 0);
        x.bed(0, 6, 5, 0);
        brought(x, 0, 1, 0, 1);
        brought(x, 1, 0, 0, 0);
        x.set(1, 1, 4);
        // Soonest is bed 1 at 0 yet, though bed 0 at 0 brings it home by bed 1 too.
        brought(x, 0, 1, 0, 1);
        x.set(1, 2, 7);
        x.bed(0, 7, 5, 0);
        x.sends(0, 0, 4);
        // Bed 1 is ahead of bed 2 at 4: by both it comes home, whichever is carried to where it stands or away.
        brought(x, 0, 0, 0, 2);
        x.set(1, 1, 6);
        brought(x, 0, 2, 4, 1);
        x.set(2, 2, 6);
        d.due("brought(0, 0), no bed belongs there", x.brought(0, 0), NONE);
        d.due("brought(0, 2), no bed belongs there", x.brought(0, 2), NONE);
        x.set(2, 2, 5);
        x.sends(0, 0, 2);
        Due.text(x, "hours n=29");
        brought(x, 0, 2, 2, 30);
        Due.text(x, "hours n=30");
        d.due("brought(0, 0), a night too late", x.brought(0, 0), NONE);
        d.due("brought(1, 0), there already", x.brought(1, 0), 0);
        d.due("brought(2, 0)", x.brought(2, 0), BAD);
        d.due("brought(-1, 0)", x.brought(-1, 0), BAD);
        d.due("brought(0, 3)", x.brought(0, 3), BAD);
        d.due("brought(0, -1)", x.brought(0, -1), BAD);
        BedsArePlaces y = still();
        y.bed(0, 1, 5, 0);
        y.bed(0, 1, 5, 0);
        y.one(1, 5);
        // Bed 0 away from it: bed 1 stands there; of towns the first.
        brought(y, 0, 0, 0, 1);
    }

    private static void brought(BedsArePlaces x, int one, int bed, int town, int behind) {
        d.due("brought(" + one + ", 0)", x.brought(one, 0), bed);
        d.due("brought(" + one + ", 1)", x.brought(one, 1), town);
        d.due("brought(" + one + ", 2)", x.brought(one, 2), behind);
    }

    private static void broughtIsTheSoonest() {
        for (int seed = 1; seed < 5; seed++) {
            int one = seed * 2;
            int bed = -1;
            int town = -1;
            int soonest = 31;
            for (int b = 0; b < 10; b++) {
                BedsArePlaces x = busy(seed * 104729);
                for (int t = 0; t < 8; t++) {
                    x.set(b, 1, t);
                    int behind = x.home(one);
                    if (behind >= 0 && behind < soonest) {
                        bed = b;
                        town = t;
                        soonest = behind;
                    }
                }
            }
            BedsArePlaces x = busy(seed * 104729);
            d.due("brought(" + one + ", 0)", x.brought(one, 0), bed < 0 ? NONE : bed);
            d.due("brought(" + one + ", 1)", x.brought(one, 1), bed < 0 ? NONE : town);
            d.due("brought(" + one + ", 2)", x.brought(one, 2), bed < 0 ? NONE : soonest);
        }
    }

    private static void belongs() {
        d.promise(23);
        BedsArePlaces x = still();
        x.bed(0, 0, 7, 0);
        x.bed(2, 5, 3, 0);
        x.one(0, 6);
        x.one(0, 6);
        x.one(5, 5);
        d.due("belongs(0, 1, 0)", x.belongs(0, 1, 0), 6);
        d.due("belongs(0, 1, 1)", x.belongs(0, 1, 1), 2);
        d.due("belongs(1, 1, 0)", x.belongs(1, 1, 0), 5);
        d.due("belongs(1, 60, 1)", x.belongs(1, 60, 1), 1);
        x.sends(1, 1, 4);
        d.due("belongs(0, 1, 0), of several the least", x.belongs(0, 1, 0), 4);
        d.due("belongs(0, 1, 1)", x.belongs(0, 1, 1), 1);
        x.bed(0, 4, 6, 0);
        x.sends(1, 1, 6);
        d.due("belongs(0, 1, 0)", x.belongs(0, 1, 0), 6);
        d.due("belongs(0, 2, 0), on by another bed", x.belongs(0, 2, 0), 4);
        d.due("belongs(0, 2, 1)", x.belongs(0, 2, 1), 2);
        int[] noNights = {0, -1, 61, Integer.MIN_VALUE, Integer.MAX_VALUE};
        for (int n : noNights) {
            d.due("belongs(0, " + n + ", 0)", x.belongs(0, n, 0), BAD);
        }
        d.due("belongs(3, 1, 0)", x.belongs(3, 1, 0), BAD);
        d.due("belongs(-1, 1, 0)", x.belongs(-1, 1, 0), BAD);
        d.due("belongs(0, 1, 2)", x.belongs(0, 1, 2), BAD);
        d.due("belongs(0, 1, -1)", x.belongs(0, 1, -1), BAD);
        for (int seed = 1; seed < 4; seed++) {
            List<Integer> atHome = new ArrayList<>();
            for (int to = 0; to < 8; to++) {
                BedsArePlaces y = busy(seed);
                y.set(3, 2, to);
                y.nights(9);
                atHome.add(Integer.bitCount(y.land(4)));
            }
            firstMost("belongs(3, 9, ..)", atHome, busy(seed).belongs(3, 9, 0), busy(seed).belongs(3, 9, 1));
        }
    }

    private static void firstMost(String call, List<Integer> many, int first, int most) {
        int best = 0;
        for (int i = 1; i < many.size(); i++) {
            if (many.get(i) > many.get(best)) {
                best = i;
            }
        }
        d.due(call + " which", first, best);
        d.due(call + " how many", most, many.get(best));
    }

    private static void becomes() {
        d.promise(24);
        BedsArePlaces x = still();
        x.bed(0, 0, 1, 2);
        for (int i = 0; i < 4; i++) {
            x.one(0, 1);
        }
        d.due("becomes(0, 1, 0), wide enough for all", x.becomes(0, 1, 0), 5);
        d.due("becomes(0, 1, 1)", x.becomes(0, 1, 1), 4);
        x.sends(3, 1, 0);
        d.due("becomes(0, 1, 0), one stays at home", x.becomes(0, 1, 0), 4);
        d.due("becomes(0, 1, 1)", x.becomes(0, 1, 1), 4);
        d.due("becomes(0, 60, 0)", x.becomes(0, 60, 0), 0);
        d.due("becomes(0, 60, 1)", x.becomes(0, 60, 1), 3);
        x.sends(2, 1, 0);
        d.due("becomes(0, 1, 0), of several the least", x.becomes(0, 1, 0), 0);
        d.due("told(0, 0)", x.told(0, 0), 0);
        x.turns(0, 2);
        d.due("becomes(0, 1, 0), whatever it is", x.becomes(0, 1, 0), 0);
        int[] noNights = {0, -1, 61, Integer.MIN_VALUE, Integer.MAX_VALUE};
        for (int n : noNights) {
            d.due("becomes(0, " + n + ", 0)", x.becomes(0, n, 0), BAD);
        }
        d.due("becomes(1, 1, 0)", x.becomes(1, 1, 0), BAD);
        d.due("becomes(-1, 1, 0)", x.becomes(-1, 1, 0), BAD);
        d.due("becomes(0, 1, 2)", x.becomes(0, 1, 2), BAD);
        d.due("becomes(0, 1, -1)", x.becomes(0, 1, -1), BAD);
        for (int seed = 1; seed < 4; seed++) {
            List<Integer> atHome = new ArrayList<>();
            for (int kind = 0; kind < 6; kind++) {
                BedsArePlaces y = busy(seed);
                y.turns(2, kind);
                y.nights(5);
                atHome.add(Integer.bitCount(y.land(4)));
            }
            firstMost("becomes(2, 5, ..)", atHome, busy(seed).becomes(2, 5, 0), busy(seed).becomes(2, 5, 1));
        }
    }

    private static void whose() {
        d.promise(25);
        BedsArePlaces x = still();
        d.due("whose(0, 0), missing", x.whose(0, 0), NOTHING);
        d.due("whose(4, 0)", x.whose(4, 0), BAD);
        d.due("whose(-1, 0)", x.whose(-1, 0), BAD);
        d.due("whose(0, 2), missing", x.whose(0, 2), BAD);
        d.due("whose(0, -1), missing", x.whose(0, -1), BAD);
        x.sheet(0, 0, 4);
        x.sheet(1, 1, 4);
        x.sheet(2, 0, 0);
        d.due("whose(0, 0), no folk", x.whose(0, 0), NONE);
        d.due("whose(3, 0), missing, no folk", x.whose(3, 0), NOTHING);
        x.bed(0, 0, 1, 0);
        x.bed(0, 1, 2, 0);
        x.bed(0, 2, 3, 0);
        x.one(3, 0);
        x.one(0, 0);
        x.one(1, 0);
        for (int i = 0; i < 4; i++) {
            x.mark(0, i, i);
            x.mark(1, i, i);
        }
        d.due("whose(0, 0)", x.whose(0, 0), 1);
        d.due("whose(0, 1)", x.whose(0, 1), 4);
        d.due("whose(1, 0), of floats", x.whose(1, 0), 1);
        x.mark(1, 0, NONE);
        x.mark(1, 1, NONE);
        x.mark(1, 2, NONE);
        // At place 3 all three are at 3: of several the least.
        d.due("whose(1, 0)", x.whose(1, 0), 0);
        d.due("whose(1, 1)", x.whose(1, 1), 1);
        d.due("whose(2, 0), no places", x.whose(2, 0), 0);
        d.due("whose(2, 1), no places", x.whose(2, 1), 0);
        x.sheet(3, 0, 24);
        for (int i = 0; i < 24; i++) {
            x.mark(3, i, 3);
        }
        d.due("whose(3, 1), always", x.whose(3, 1), 24);
    }

    private static void fee() {
        d.promise(26);
        BedsArePlaces x = still();
        x.bed(0, 0, 1, 0);
        x.one(0, 0);
        x.one(4, 0);
        x.one(4, 0);
        x.nights(2);
        d.due("fee(), no text", x.fee(), 1);
        Due.text(x, "fee s*1000+a");
        d.due("fee()", x.fee(), 1005);
        Due.text(x, "hours 0");
        d.due("fee(), hours does not count for it", x.fee(), 1005);
        Due.text(x, "fee 0-s-a*9999*9999*9999");
        d.due("fee(), it wraps and is not held", x.fee(), -1 - 5 * 9999 * 9999 * 9999);
    }

    private static void fine() {
        d.promise(27);
        BedsArePlaces x = still();
        d.due("fine(0), no beds", x.fine(0), BAD);
        x.bed(0, 3, 6, 0);
        x.bed(1, 5, 2, 0);
        d.due("fine(0), no text", x.fine(0), 6);
        d.due("fine(1), no text", x.fine(1), 2);
        Due.text(x, "fine f*100-o");
        d.due("fine(0)", x.fine(0), 294);
        d.due("fine(1)", x.fine(1), 498);
        d.due("fine(2)", x.fine(2), BAD);
        d.due("fine(-1)", x.fine(-1), BAD);
        d.due("fine(MIN)", x.fine(Integer.MIN_VALUE), BAD);
    }

    private static void nothingChanges() {
        BedsArePlaces x = busy(4711);
        x.sheet(0, 0, 24);
        x.lay(0, 1, 3);
        String was = Due.all(x);
        x.behind(100, 0);
        x.home(3);
        x.brought(4, 0);
        x.belongs(2, 60, 0);
        x.becomes(2, 60, 0);
        x.whose(0, 0);
        x.fee();
        x.fine(1);
        x.lacks();
        x.missed(0);
        d.promise(20);
        d.holds("what is only thought changes nothing", was.equals(Due.all(x)));
    }
}
