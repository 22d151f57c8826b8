/** Promises 20 to 27, and what section 3 says of what will be. */
final class EdgesOfThought extends Edges {
    EdgesOfThought(Due d) {
        super(d);
    }

    @Override
    void all() {
        thought();
        behind();
        home();
        brought();
        belongs();
        becomes();
        whose();
        fees();
    }

    private void thought() {
        at("Section 3", "(All that follows is only thought", this::nothingChanges);
        at("Section 3", "z as it is", this::byTheDrawsToCome);
        at("Section 3", "without the bound of THE NIGHT", this::beyondTheLastNight);
    }

    private void nothingChanges() {
        String[] calls = {"behind(100, 0)", "behind(100, 2)", "behind(100, 7)", "home(0)", "home(4)", "brought(0, 0)", "brought(3, 2)", "belongs(4, 60, 0)", "belongs(0, 60, 1)", "becomes(4, 60, 0)", "becomes(0, 60, 1)", "whose(0, 0)", "whose(1, 1)", "fee()", "fine(4)"};
        String due = busy().all();
        String dueFull = full().all();
        for (String call : calls) {
            Run x = busy();
            x.call(call);
            d.same("behind " + call, x.all(), due);
            Run full = full();
            full.call(call);
            d.same("full, behind " + call, full.all(), dueFull);
        }
    }

    /** The one bed is carried each night: where it will stand, and so who sleeps, goes by z. */
    private void byTheDrawsToCome() {
        for (int seed = 1; seed < 20; seed++) {
            int town = rest(next(next(next(seed))), 8);
            Run x = run("carry(100); bed(0, 0, 0, 0); seed(" + seed + ")");
            for (int i = 0; i < 8; i++) {
                x.does("one(" + i + ", " + i + ")");
            }
            x.does("set(0, 1, 7); set(0, 2, 6); sends(6, 1, 0)");
            // The first night takes number 7 to 6, the second one (two of those at 6, if it stands there) the one at its town.
            int second = town == 7 ? 0 : town == 6 ? 2 : 1;
            x.due("behind(1, 0)", 1).due("behind(2, 0)", 1 + second).due("behind(2, 0)", 1 + second).due("count(7)", seed);
            x.does("nights(2)").due("land(0)", 1 + second);
        }
    }

    private void beyondTheLastNight() {
        String sawn = "bed(4, 0, 1, 2); bed(4, 2, 3, 4); bed(4, 1, 5, 6); one(0, 2)";
        Run x = atNight(9999, sawn);
        // 9999 is odd, 10000 is not.
        x.due("behind(1, 0)", 1).due("behind(1, 3)", 2).due("behind(2, 3)", 3).due("behind(2, 0)", 2).due("behind(100, 1)", 98);
        x.due("home(0)", 1).due("nights(1)", 0).due("count(1)", 9999);
        atNight(9999, "bed(0, 0, 0, 0); one(0, 0)").due("behind(100, 0)", 100).due("land(0)", 0);
        atNight(9999, "bed(0, 3, 5, 0); one(0, 5)").due("brought(0, 0)", 0).due("brought(0, 1)", 0).due("brought(0, 2)", 1)
            .does("set(0, 1, 0)").due("belongs(0, 60, 0)", 5).due("belongs(0, 1, 1)", 1).due("becomes(0, 1, 1)", 1)
            .does("sheet(0, 0, 2); mark(0, 1, 5)").due("whose(0, 1)", 2);
        atNight(9999, "bed(0, 0, 5, 0); one(0, 5)").text("hours n=9999+1", 0).due("behind(1, 0)", 0).due("behind(2, 0)", 1).due("home(0)", 2);
        atNight(9990, "bed(0, 0, 5, 0); one(0, 5)").text("hours n>9999", 0).due("home(0)", 11).text("hours n=9999+9", 1).due("home(0)", 19);
    }

    private void behind() {
        at("Promise 20", "BEHIND n (0 .. 100) NIGHTS", this::behindNoneToHundred);
        at("Promise 20", "3 and k: TOWN of number k of the FOLK", this::townsBehind);
        at("Promise 20", "BAD", this::behindRefused);
        at("Section 3", "BEHIND n NIGHTS: SLEPT; AWAKE; those at HOME, as a set", this::allTheNightsCount);
    }

    private void behindNoneToHundred() {
        Run x = still("bed(0, 0, 1, 0); bed(0, 1, 0, 0); one(0, 0)");
        x.due("behind(0, 0)", 0).due("behind(0, 1)", 0).due("behind(0, 2)", 1).due("behind(0, 3)", 0);
        x.due("behind(1, 0)", 1).due("behind(1, 2)", 0).due("behind(1, 3)", 1);
        x.due("behind(99, 0)", 99).due("behind(99, 3)", 1).due("behind(100, 0)", 100).due("behind(100, 2)", 1).due("behind(100, 3)", 0);
    }

    private void townsBehind() {
        Run x = still("bed(5, 0, 7, 0)").due("behind(1, 3)", BAD);
        for (int k = 0; k < 9; k++) {
            x.due("behind(0, " + (3 + k) + ")", BAD).does("one(" + (8 - k) % 8 + ", 0)").due("behind(0, " + (3 + k) + ")", (8 - k) % 8);
        }
        x.due("behind(1, 3)", 7).due("behind(1, 11)", 7).due("behind(1, 12)", BAD).due("behind(1, 10)", 1);
    }

    private void behindRefused() {
        range(this::busy, 0, 100, "behind(#, 0)");
        range(this::busy, 0, 7, "behind(1, #)");
        range(this::full, 0, 11, "behind(1, #)");
        range(this::run, 0, 2, "behind(1, #)");
    }

    private void allTheNightsCount() {
        Run x = still("bed(2, 0, 0, 0); one(0, 0); one(0, 0); nights(3)");
        x.due("behind(0, 0)", 3).due("behind(0, 1)", 3).due("behind(2, 0)", 5).due("behind(2, 1)", 5).due("behind(2, 2)", 3);
    }

    private void home() {
        at("Section 3", "behind how many NIGHTS (0 .. 200) it is at HOME first", this::backWithinBounds);
        at("Promise 21", "NONE: not by then", () -> refused(() -> still("bed(0, 0, 0, 0); one(0, 7); one(3, 4)"), NONE, "home(0)", "home(1)"));
        at("Promise 21", "BAD", () -> {
            range(() -> still("bed(0, 0, 1, 0); one(1, 1); one(0, 1); one(1, 1)"), 0, 2, "home(#)");
            refused(this::run, BAD, "home(0)", "home(-1)");
            refused(this::full, BAD, "home(9)", "home(-1)");
        });
    }

    private Run homeInNight(int night) {
        return still("bed(0, 0, 1, 0); one(0, 1)").text("hours n=" + night, 0);
    }

    private void backWithinBounds() {
        still("one(5, 5)").due("home(0)", 0);
        homeInNight(0).due("home(0)", 1);
        homeInNight(198).due("home(0)", 199);
        homeInNight(199).due("home(0)", 200);
        homeInNight(200).due("home(0)", NONE);
        homeInNight(201).due("home(0)", NONE);
        // First: it goes on from its home, and comes again.
        still("bed(0, 0, 1, 0); bed(0, 1, 0, 0); one(0, 1)").due("home(0)", 1).does("nights(1)").due("home(0)", 0).does("nights(1)").due("home(0)", 1);
        still("bed(0, 0, 1, 0); bed(0, 1, 0, 0); one(0, 0)").due("home(0)", 0);
    }

    private void brought() {
        at("Section 3", "soonest (behind 0 .. 30 NIGHTS)", this::broughtWithinBounds);
        at("Section 3", "of several the first BED, then the first TOWN", this::broughtOfSeveral);
        at("Section 3", "it being AT that now", this::broughtNow);
        at("Promise 22", "NONE: by none", () -> {
            refused(() -> still("one(0, 5); one(5, 5)"), NONE, "brought(0, 0)", "brought(0, 1)", "brought(0, 2)", "brought(1, 0)");
            refused(() -> still("bed(0, 1, 4, 0); one(0, 5)"), NONE, "brought(0, 0)", "brought(0, 1)", "brought(0, 2)");
            refused(() -> still("bed(0, 0, 5, 0); one(0, 5); sends(0, 3, 1)"), NONE, "brought(0, 0)", "brought(0, 2)");
        });
        at("Promise 22", "BAD", () -> {
            range(() -> still("bed(0, 1, 5, 0); one(0, 5); one(1, 5); one(2, 5)"), 0, 2, "brought(#, 0)");
            range(() -> still("bed(0, 1, 5, 0); one(0, 5)"), 0, 2, "brought(0, #)");
        });
        at("Promise 22", "BAD; NONE", () -> refused(() -> still("one(0, 5)"), BAD, "brought(1, 0)", "brought(-1, 0)", "brought(0, 3)", "brought(0, -1)"));
    }

    private void brought(Run x, int one, int bed, int town, int nights) {
        x.due("brought(" + one + ", 0)", bed).due("brought(" + one + ", 1)", town).due("brought(" + one + ", 2)", nights);
    }

    private void broughtWithinBounds() {
        brought(still("bed(0, 3, 5, 0); one(7, 7)"), 0, 0, 0, 0);
        brought(still("bed(0, 3, 5, 0); one(2, 5)"), 0, 0, 2, 1);
        brought(still("bed(0, 3, 5, 0); one(2, 5)").text("hours n=28", 0), 0, 0, 2, 29);
        brought(still("bed(0, 3, 5, 0); one(2, 5)").text("hours n=29", 0), 0, 0, 2, 30);
        brought(still("bed(0, 3, 5, 0); one(2, 5)").text("hours n=30", 0), 0, NONE, NONE, NONE);
        brought(still("bed(0, 3, 5, 0); one(7, 5)"), 0, 0, 7, 1);
    }

    private void broughtOfSeveral() {
        brought(still("bed(0, 3, 5, 0); bed(0, 4, 5, 0); one(2, 5)"), 0, 0, 2, 1);
        brought(still("bed(0, 3, 6, 0); bed(0, 4, 5, 0); bed(0, 4, 5, 0); one(2, 5)"), 0, 1, 2, 1);
        // The second bed takes it home as it stands: whichever town the first is at, but the one's own, is as good.
        brought(still("bed(0, 3, 6, 0); bed(0, 2, 5, 0); one(2, 5)"), 0, 0, 0, 1);
        brought(still("bed(0, 3, 6, 0); bed(0, 0, 5, 0); one(0, 5)"), 0, 0, 1, 1);
        brought(still("bed(0, 3, 6, 0); bed(0, 3, 7, 0); one(5, 5)"), 0, 0, 0, 0);
        // A later bed that does it sooner goes ahead of an earlier one.
        brought(still("bed(0, 3, 6, 0); bed(0, 6, 7, 0); bed(0, 4, 7, 0); one(2, 7)"), 0, 1, 2, 1);
    }

    private void broughtNow() {
        // Bed 2 would take it home from 6, but bed 1 is ahead of it there: two nights, by 4, wherever bed 0 is.
        brought(still("bed(0, 3, 6, 0); bed(0, 6, 4, 0); bed(0, 4, 7, 0); one(6, 7)").due("home(0)", 2), 0, 0, 0, 2);
        // The bed is where it is only from now on: carried off in the first night, it takes nobody in the second.
        brought(run("bed(0, 3, 5, 0); one(2, 5); carry(100)").text("hours n=0", 0), 0, 0, 2, 1);
    }

    private void belongs() {
        at("Section 3", "the TO with which most are at HOME behind n NIGHTS; of several the least", this::belongsOfSeveral);
        at("Promise 23", "for n (1 .. 60)", this::belongsWithinBounds);
        at("Promise 23", "1 how many are at HOME", this::howManyBelong);
        at("Promise 23", "BAD", () -> bedsAndNights("belongs"));
    }

    private void bedsAndNights(String call) {
        range(this::busy, 0, 4, call + "(#, 1, 0)");
        range(this::full, 0, 9, call + "(#, 1, 0)");
        range(this::busy, 1, 60, call + "(0, #, 1)");
        range(this::busy, 0, 1, call + "(0, 1, #)");
        refused(this::run, BAD, call + "(0, 1, 0)", call + "(0, 61, 2)");
    }

    private void belongsOfSeveral() {
        String two = "bed(0, 0, 7, 0); one(0, 3); one(0, 6)";
        still(two).due("belongs(0, 1, 0)", 3).due("belongs(0, 1, 1)", 1);
        still(two + "; sends(0, 1, 6)").due("belongs(0, 1, 0)", 6).due("belongs(0, 1, 1)", 2);
        still("bed(0, 3, 7, 0); one(0, 5)").due("belongs(0, 1, 0)", 0).due("belongs(0, 1, 1)", 0);
        still("bed(0, 3, 7, 0)").due("belongs(0, 1, 0)", 0).due("belongs(0, 1, 1)", 0);
        still("bed(0, 0, 0, 0); one(0, 7); one(0, 7)").due("belongs(0, 1, 0)", 7).due("belongs(0, 60, 1)", 2);
    }

    private void belongsWithinBounds() {
        Run x = still("bed(0, 0, 0, 0); one(0, 5)").text("hours n=59", 0);
        x.due("belongs(0, 60, 0)", 5).due("belongs(0, 60, 1)", 1).due("belongs(0, 59, 0)", 0).due("belongs(0, 59, 1)", 0);
        x.text("hours n=0", 1).due("belongs(0, 1, 0)", 5).due("belongs(0, 1, 1)", 1);
        x.text("hours n=1", 2).due("belongs(0, 1, 1)", 0).due("belongs(0, 2, 1)", 1);
    }

    private void howManyBelong() {
        Run x = still("bed(5, 0, 1, 0)");
        for (int i = 0; i < 9; i++) {
            x.does("one(" + (i < 4 ? 0 : 2) + ", " + (i < 3 ? 4 : 2) + ")");
        }
        // Three would wake at home at 4, one at 2; five are at home as they are.
        x.due("belongs(0, 1, 0)", 4).due("belongs(0, 1, 1)", 8).due("told(0, 2)", 1);
        still("bed(0, 0, 0, 0); one(3, 3)").due("belongs(0, 1, 0)", 0).due("belongs(0, 1, 1)", 1);
    }

    private void becomes() {
        at("Section 3", "the KIND as one of which most are at HOME behind n NIGHTS; of several the least", this::becomesOfSeveral);
        at("Promise 24", "for n (1 .. 60)", this::becomesWithinBounds);
        at("Promise 24", "1 how many are at HOME", () -> still("bed(0, 0, 1, 0); one(0, 1); one(5, 5)").due("becomes(0, 1, 1)", 2).due("becomes(0, 60, 1)", 2).due("told(0, 0)", 0));
        at("Promise 24", "BAD", () -> bedsAndNights("becomes"));
    }

    private void becomesOfSeveral() {
        still("bed(5, 0, 1, 0); one(0, 1); one(0, 1)").due("becomes(0, 1, 0)", 0).due("becomes(0, 1, 1)", 2);
        still("bed(5, 0, 1, 0); one(0, 0)").due("becomes(0, 1, 0)", 1).due("becomes(0, 1, 1)", 1);
        still("bed(0, 0, 1, 0); one(0, 0); one(0, 0)").due("becomes(0, 1, 0)", 2).due("becomes(0, 1, 1)", 1);
        // Back where they stood behind two nights, by a hammock; it takes two, as the others do.
        still("bed(0, 0, 1, 0); one(0, 0); one(0, 0)").due("becomes(0, 2, 0)", 3).due("becomes(0, 2, 1)", 2);
        still("bed(0, 0, 1, 7); one(0, 1); one(0, 1); one(0, 1)").due("becomes(0, 1, 0)", 4).due("becomes(0, 1, 1)", 3);
        still("bed(0, 0, 1, 7); one(0, 1); one(0, 1); one(0, 1); one(0, 1)").due("becomes(0, 1, 0)", 5).due("becomes(0, 1, 1)", 4);
        still("bed(4, 3, 1, 7); one(0, 1)").due("becomes(0, 1, 0)", 0).due("becomes(0, 1, 1)", 0);
    }

    private void becomesWithinBounds() {
        Run x = still("bed(5, 0, 5, 0); one(0, 5)").text("hours n=59", 0);
        x.due("becomes(0, 60, 0)", 0).due("becomes(0, 60, 1)", 1).due("becomes(0, 59, 1)", 0);
        x.text("hours n=0", 1).due("becomes(0, 1, 1)", 1);
        x.text("hours n=1", 2).due("becomes(0, 1, 1)", 0).due("becomes(0, 2, 1)", 1);
    }

    private void whose() {
        at("Section 3", "is just place k at most places that are numbers", this::whoseNumbers);
        at("Section 3", "(k from 0 on)", this::whoseFromNow);
        at("Section 3", "(k from 0 on); of several the least", this::whoseOfSeveral);
        at("Promise 25", "NOTHING", () -> refused(this::busy, NOTHING, "whose(3, 0)", "whose(3, 1)"));
        at("Promise 25", "NONE: there are no FOLK", () -> refused(() -> run("sheet(0, 0, 3); sheet(1, 1, 0)"), NONE, "whose(0, 0)", "whose(0, 1)", "whose(1, 0)"));
        at("Promise 25", "BAD", () -> {
            range(() -> busy().does("sheet(3, 1, 24)"), 0, 3, "whose(#, 0)");
            range(this::busy, 0, 1, "whose(1, #)");
        });
        at("Promise 25", "BAD; NOTHING; NONE", () -> {
            refused(() -> run("sheet(0, 0, 3)"), BAD, "whose(4, 0)", "whose(3, 2)", "whose(0, 2)", "whose(0, -1)");
            refused(() -> run("sheet(0, 0, 3)"), NOTHING, "whose(3, 0)");
        });
    }

    private void whoseNumbers() {
        Run x = still("one(0, 0); one(3, 0); sheet(0, 1, 5); mark(0, 0, 3); mark(0, 1, NONE); mark(0, 2, NONE); mark(0, 3, 3)");
        // Places 0 and 3 are of number 1, place 4 is of number 0; 1 and 2 are nobody's.
        x.due("whose(0, 0)", 1).due("whose(0, 1)", 2);
        x.does("mark(0, 0, NONE)").due("whose(0, 0)", 0).due("whose(0, 1)", 1);
        x.does("mark(0, 3, NONE); mark(0, 4, NONE)").due("whose(0, 0)", 0).due("whose(0, 1)", 0);
        x.does("sheet(1, 0, 3); mark(1, 0, 8); mark(1, 1, -1); mark(1, 2, 65536)").due("whose(1, 0)", 0).due("whose(1, 1)", 1);
        still("one(3, 0); sheet(2, 1, 24)").due("whose(2, 1)", 0);
    }

    private void whoseFromNow() {
        Run x = still("bed(0, 2, 4, 0); bed(0, 4, 6, 0); one(2, 0); sheet(0, 0, 3); mark(0, 0, 2); mark(0, 1, 4); mark(0, 2, 6)");
        x.due("whose(0, 1)", 3).does("nights(1)").due("whose(0, 1)", 1);
        x.does("mark(0, 0, 4); mark(0, 1, 6)").due("whose(0, 1)", 3);
        Run long24 = still("bed(0, 2, 4, 0); bed(0, 4, 2, 0); one(2, 0); sheet(0, 0, 24)");
        for (int k = 0; k < 24; k++) {
            long24.does("mark(0, " + k + ", " + (k % 2 == 0 ? 2 : 4) + ")").due("whose(0, 1)", k + 1);
        }
    }

    private void whoseOfSeveral() {
        Run x = still("one(1, 0); one(2, 0); one(2, 0); sheet(0, 0, 2); mark(0, 0, 2); mark(0, 1, 1)");
        x.due("whose(0, 0)", 0).due("whose(0, 1)", 1).does("mark(0, 1, 2)").due("whose(0, 0)", 1).due("whose(0, 1)", 2);
        x.does("sheet(1, 0, 0)").due("whose(1, 0)", 0).due("whose(1, 1)", 0);
        Run nine = still("sheet(0, 0, 1); mark(0, 0, 5)");
        for (int i = 0; i < 8; i++) {
            nine.does("one(4, 0)").due("whose(0, 0)", 0).due("whose(0, 1)", 0);
        }
        nine.does("one(5, 0)").due("whose(0, 0)", 8).due("whose(0, 1)", 1);
    }

    private void fees() {
        at("Section 4", "(what fee gives is told by fee(); without a TEXT: SLEPT)", this::feeWithout);
        at("Section 4", "(what fine gives for a BED is told by fine(); without a TEXT: TO)", this::fineWithout);
        at("Promise 26", "What fee gives", () -> still("one(0, 0); nights(7)").text("fee 0-a*9999", 0).due("fee()", -69993).text("fee 9999*9999*9999", 1).due("fee()", (int) 999700029999L));
        at("Promise 27", "What fine gives for a BED", () -> run("bed(0, 3, 5, 0); bed(0, 7, 0, 0)").text("fine o-f*9999", 0).due("fine(0)", -29992).due("fine(1)", -69993));
        at("Promise 27", "BAD", () -> {
            range(this::busy, 0, 4, "fine(#)");
            range(this::full, 0, 9, "fine(#)");
            refused(this::run, BAD, "fine(0)");
        });
    }

    private void feeWithout() {
        Run x = still("bed(0, 0, 0, 0); one(0, 0); one(5, 0); nights(3)").due("fee()", 3);
        x.text("hours 0", 0).text("fine 7", 1).text("fee 8+", -106).due("fee()", 3);
        x.text("fee a+20", 2).due("fee()", 23);
    }

    private void fineWithout() {
        Run x = run("bed(0, 3, 5, 6); bed(4, 1, 0, 7)").due("fine(0)", 5).due("fine(1)", 0);
        x.text("hours 0", 0).text("fee 7", 1).text("fine", -104).due("fine(0)", 5);
        x.text("fine f", 2).due("fine(0)", 3).due("fine(1)", 1);
    }
}
