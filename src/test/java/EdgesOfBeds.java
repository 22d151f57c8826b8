/** Promises 1 to 9, and what sections 1 and 2 say of beds and draws. */
final class EdgesOfBeds extends Edges {
    EdgesOfBeds(Due d) {
        super(d);
    }

    @Override
    void all() {
        aNewObject();
        beds();
        kinds();
        toldAndChanged();
        drawn();
    }

    private void aNewObject() {
        at("Promise 1", "As told", this::nothingYet);
        at("Promise 1", "no BEDS", this::noBeds);
        at("Promise 1", "no FOLK", this::noFolk);
        at("Section 1", "(20 at first)", () -> run().due("count(2)", 20).due("carry(3)", 20));
        at("Section 1", "SLEPT, AWAKE, LOST, CARRIED are 0 at first", () -> run().due("land(0)", 0).due("land(1)", 0).due("land(2)", 0).due("land(3)", 0));
        at("Section 1", "THE NIGHT is 0 at first", () -> run().due("count(1)", 0));
        at("Section 2", "z is told (1 at first)", () -> run().due("count(7)", 1).due("seed(9)", 1));
        at("Section 5", "or MISSING (at first)", this::sheetsAtFirst);
        at("Section 5", "each hold nothing (at first)", this::slotsAtFirst);
    }

    private void nothingYet() {
        run().due("count(0)", 0).due("count(3)", 0).due("count(4)", 0).due("count(5)", 0).due("count(6)", 0);
        run().due("land(4)", 0).due("land(5)", 0).due("land(6)", 0).due("textTold(0, 0)", BAD).due("why(0)", NONE).due("why(1)", NONE).due("why(2)", NONE);
        run().due("back()", NO).due("text()", -100).due("fee()", 0).due("check(1)", NO);
    }

    private void noBeds() {
        Run x = run("one(3, 3); one(4, 5); seed(7); carry(100); sheet(0, 0, 2)");
        x.due("told(0, 0)", BAD).due("as(0, 0)", BAD).due("turns(0, 0)", BAD).due("set(0, 1, 0)", BAD).due("fine(0)", BAD).due("lay(0, 1, 0)", BAD);
        x.due("reach(3)", 8).due("way(3, 4)", NONE).due("way(3, 3)", 0).due("lacks()", 8).due("missed(0)", NONE).due("pour(0)", 0);
        x.due("home(0)", 0).due("home(1)", NONE).due("brought(0, 2)", NONE).due("belongs(0, 1, 0)", BAD).due("becomes(0, 1, 0)", BAD);
        x.due("behind(9, 0)", 0).due("behind(9, 1)", 18).due("nights(9)", 0).due("land(1)", 18).due("land(3)", 0).due("keep()", 0).due("back()", 0);
    }

    private void noFolk() {
        Run x = run("bed(3, 1, 2, 0); bed(5, 2, 3, 0); carry(0); sheet(0, 0, 2); sheet(1, 0, 0); keep()");
        x.due("folk(0, 0)", BAD).due("sends(0, 0, 0)", BAD).due("home(0)", BAD).due("brought(0, 0)", BAD).due("behind(0, 3)", BAD).due("who(1)", 0);
        x.due("whose(0, 0)", NONE).due("whose(2, 0)", NOTHING).due("reads(0)", 0).due("reads(1)", NONE);
        x.due("belongs(0, 60, 0)", 0).due("belongs(0, 60, 1)", 0).due("becomes(0, 60, 0)", 0).due("becomes(1, 60, 1)", 0);
        x.due("behind(9, 0)", 0).due("behind(9, 1)", 0).due("behind(9, 2)", 0).due("nights(9)", 0).due("land(0)", 0).due("land(1)", 0).due("land(4)", 0).due("land(6)", 0);
        x.due("told(0, 1)", 1).does("tell(0); tell(0)").due("check(1)", 0);
    }

    private void sheetsAtFirst() {
        for (int sheet = 0; sheet < 4; sheet++) {
            run().due("reads(" + sheet + ")", NOTHING).due("lay(0, 2, " + sheet + ")", NOTHING);
        }
    }

    private void slotsAtFirst() {
        for (int slot = 0; slot < 5; slot++) {
            run().due("ask(" + slot + ", 0)", NOTHING).due("lay(" + slot + ", 0, 0)", 0);
        }
    }

    private void beds() {
        at("Section 1", "BEDS, 10 at most, numbered from 0", this::tenBeds);
        at("Section 1", "THE LAND has TOWNS 0 .. 7", this::towns);
        at("Section 1", "OTHER (all TOWNS)", this::townsOfBeds);
        at("Promise 2", "BAD", this::bedRefused);
        at("Promise 2", "FULL", () -> refused(this::full, FULL, "bed(0, 0, 0, 0)", "bed(5, 7, 7, 7)"));
        at("Promise 2", "BAD; FULL", () -> refused(this::full, BAD, "bed(6, 0, 0, 0)", "bed(0, 8, 0, 0)", "bed(0, 0, 8, 0)", "bed(0, 0, 0, 8)", "bed(-1, 0, 0, 0)"));
    }

    private void tenBeds() {
        Run x = run();
        for (int i = 0; i < 10; i++) {
            x.due("told(" + i + ", 0)", BAD).due("bed(" + i % 6 + ", 1, 2, 3)", i).due("told(" + i + ", 0)", i % 6);
        }
        x.due("bed(0, 1, 2, 3)", FULL).due("count(0)", 10).due("told(10, 0)", BAD).due("told(9, 0)", 3);
    }

    private void towns() {
        for (String call : new String[] {"who(#)", "reach(#)", "way(#, 7)", "way(0, #)", "one(#, 7)", "one(0, #)", "sends(0, 0, #)", "sends(0, 1, #)", "bed(0, #, 7, 7)", "set(7, 2, #)"}) {
            range(() -> ring().does("one(0, 7)"), 0, 7, call);
        }
    }

    /** From each town to the next one a bed. */
    private Run ring() {
        Run x = still("seed(1)");
        for (int town = 0; town < 8; town++) {
            x.does("bed(0, " + town + ", " + (town + 1) % 8 + ", 0)");
        }
        return x;
    }

    private void townsOfBeds() {
        run().due("bed(0, 0, 0, 0)", 0).due("told(0, 1)", 0).due("told(0, 2)", 0).due("told(0, 3)", 0);
        run().due("bed(0, 7, 6, 5)", 0).due("told(0, 1)", 7).due("told(0, 2)", 6).due("told(0, 3)", 5);
        run().due("bed(0, 5, 7, 6)", 0).due("told(0, 1)", 5).due("told(0, 2)", 7).due("told(0, 3)", 6);
        run().due("bed(0, 6, 5, 7)", 0).due("told(0, 1)", 6).due("told(0, 2)", 5).due("told(0, 3)", 7);
    }

    private void bedRefused() {
        range(this::busy, 0, 5, "bed(#, 0, 0, 0)");
        range(this::busy, 0, 7, "bed(0, #, 0, 0)");
        range(this::busy, 0, 7, "bed(0, 0, #, 0)");
        range(this::busy, 0, 7, "bed(0, 0, 0, #)");
    }

    /** One bed of each kind, the number of which is its kind: it stands at 1, belongs to 4, and 6 is the other town. */
    private Run eachKind() {
        return still("bed(0, 1, 4, 6); bed(1, 1, 4, 6); bed(2, 1, 4, 6); bed(3, 1, 4, 6); bed(4, 1, 4, 6); bed(5, 1, 4, 6)");
    }

    private void kinds() {
        at("Section 1", "WIDE (how many it takes): BED: 2", () -> wide(0, 2));
        at("Section 1", "COT: 1", () -> wide(2, 1));
        at("Section 1", "SAWN: as COT, and 2", () -> wide(4, 3));
        at("Section 1", "PLAIN: 4", () -> wide(5, 4));
        at("Section 1", "TAKES (by how many lie in it): BED: TO", () -> takes(0, 4, 4));
        at("Section 1", "DOUBLE: TO, if they are two, else AT", this::takesTwo);
        at("Section 1", "HAMMOCK: as BED", () -> takes(3, 4, 4));
        at("Section 1", "SAWN: OTHER, if THE NIGHT is odd, else as COT", this::takesByTheNight);
        at("Section 1", "LEADS (by a set of TOWNS): BED: TO", () -> eachKind().due("told(0, 7)", 1 << 4));
        at("Section 1", "SAWN: TO and OTHER", this::leadsToBoth);
        at("Section 1", "WORTH: BED: how far (signs left out) AT is from TO", () -> worth(0, 7, 7, 3, 0));
        at("Section 1", "DOUBLE: as BED, and 5", () -> worth(1, 12, 12, 8, 5));
        at("Section 1", "HAMMOCK: twice as DOUBLE", () -> worth(3, 24, 24, 16, 10));
        at("Section 1", "COT: 9 less what it is as BED", () -> worth(2, 2, 2, 6, 9));
        at("Section 1", "SAWN: as COT, and OTHER", this::worthOfSawn);
        at("Section 1", "PLAIN: 1", () -> worth(5, 1, 1, 1, 1));
        at("Section 1", "(A KIND that is not named does as the one above it.)", this::asTheOneAbove);
        at("Section 1", "5 PLAIN, under BED; 3 HAMMOCK, under DOUBLE; 4 SAWN, under COT (all are BEDS)", this::underOneAnother);
    }

    private void wide(int kind, int wide) {
        eachKind().due("told(" + kind + ", 4)", wide);
        Run x = still("bed(" + kind + ", 1, 4, 6)");
        for (int i = 0; i < wide; i++) {
            x.does("one(1, 0)");
            x.due("behind(1, 0)", i + 1).due("behind(1, 1)", 0);
        }
        x.does("one(1, 0)").due("behind(1, 0)", wide).due("behind(1, 1)", 1).due("behind(1, " + (3 + wide) + ")", 1);
    }

    private void takes(int kind, int one, int two) {
        eachKind().due("told(" + kind + ", 5)", one).due("told(" + kind + ", 6)", two);
        still("bed(" + kind + ", 1, 4, 6); one(1, 0); nights(1)").due("folk(0, 0)", one);
        still("bed(" + kind + ", 1, 4, 6); one(1, 0); one(1, 0); nights(1)").due("folk(0, 0)", two).due("folk(1, 0)", two);
    }

    private void takesTwo() {
        takes(1, 1, 4);
        // A third one finds no room, and does not make it three.
        still("bed(1, 1, 4, 6); one(1, 0); one(1, 0); one(1, 0); nights(1)").due("folk(0, 0)", 4).due("folk(2, 0)", 1);
    }

    private void takesByTheNight() {
        takes(4, 4, 4);
        Run x = eachKind().does("nights(1)").due("told(4, 5)", 6).due("told(4, 6)", 6).due("told(2, 5)", 4).due("told(2, 6)", 4);
        x.does("one(3, 0); set(4, 1, 3); nights(1)").due("folk(0, 0)", 6).due("told(4, 5)", 4);
        atNight(9998, "bed(4, 1, 4, 6); one(1, 0)").due("told(0, 5)", 4).does("nights(1)").due("folk(0, 0)", 4).due("told(0, 5)", 6);
    }

    private void leadsToBoth() {
        eachKind().due("told(4, 7)", 1 << 4 | 1 << 6).does("set(4, 3, 4)").due("told(4, 7)", 1 << 4);
        run("bed(4, 1, 0, 7)").due("told(0, 7)", 1 | 1 << 7).does("nights(1)").due("told(0, 7)", 1 | 1 << 7);
    }

    /** From 0 to 7, from 7 to 0, from 1 to 4, from 5 to 5. */
    private void worth(int kind, int up, int down, int near, int same) {
        run("bed(" + kind + ", 0, 7, 3); bed(" + kind + ", 7, 0, 3); bed(" + kind + ", 1, 4, 3); bed(" + kind + ", 5, 5, 3)")
            .due("told(0, 8)", up).due("told(1, 8)", down).due("told(2, 8)", near).due("told(3, 8)", same)
            .does("lay(0, 1, 0); lay(1, 1, 1); lay(2, 1, 3)").due("ask(0, 0)", up).due("ask(1, 0)", down).due("ask(2, 0)", same);
    }

    private void worthOfSawn() {
        worth(4, 5, 5, 9, 12);
        run("bed(4, 0, 7, 0); bed(4, 5, 5, 7)").due("told(0, 8)", 2).due("told(1, 8)", 16);
    }

    private void asTheOneAbove() {
        wide(1, 2);
        wide(3, 2);
        takes(5, 4, 4);
        // A cot takes one alone, but where it would take two is told.
        eachKind().due("told(2, 5)", 4).due("told(2, 6)", 4);
        eachKind().due("told(1, 7)", 1 << 4).due("told(2, 7)", 1 << 4).due("told(3, 7)", 1 << 4).due("told(5, 7)", 1 << 4);
    }

    private void underOneAnother() {
        String[] are = {"0", "01", "02", "013", "024", "05"};
        for (int bed = 0; bed < 6; bed++) {
            Run x = eachKind().does("lay(0, 1, " + bed + ")");
            for (int kind = 0; kind < 6; kind++) {
                boolean is = are[bed].contains(String.valueOf(kind));
                x.due("as(" + bed + ", " + kind + ")", is ? 4 : KIND);
                d.due("ask(0, " + kind + ") of kind " + bed, x.call("ask(0, " + kind + ")"), is ? x.call("told(" + bed + ", 8)") : KIND);
            }
        }
    }

    private void toldAndChanged() {
        at("Promise 3", "BAD", this::toldRefused);
        at("Promise 3", "5 where it TAKES one alone, 6 where it TAKES two", () -> eachKind().due("told(1, 5)", 1).due("told(1, 6)", 4));
        at("Promise 4", "BAD: bed, kind", this::asRefused);
        at("Promise 4", "KIND: it is not of that KIND, nor of one under it", () -> refused(this::eachKind, KIND, "as(0, 1)", "as(0, 5)", "as(1, 3)", "as(2, 4)", "as(3, 2)", "as(4, 1)", "as(5, 1)"));
        at("Promise 4", "BAD: bed, kind; KIND", () -> refused(this::eachKind, BAD, "as(0, 6)", "as(6, 1)", "as(-1, 1)"));
        at("Promise 5", "BAD", this::turnsRefused);
        at("Promise 5", "what it was", () -> eachKind().due("turns(0, 5)", 0).due("turns(0, 0)", 5).due("turns(5, 5)", 5).due("told(5, 0)", 5));
        at("Promise 6", "(what 1 .. 3)", this::setEach);
        at("Promise 6", "BAD", this::setRefused);
        at("Section 1", "CARRY 0 .. 100", () -> run().due("carry(0)", 20).due("carry(100)", 0).due("count(2)", 100).due("carry(100)", 100));
        at("Promise 7", "BAD", () -> range(this::busy, 0, 100, "carry(#)"));
        at("Promise 9", "z becomes v: what it was", () -> run().due("seed(MIN)", 1).due("seed(MAX)", MIN).due("seed(0)", MAX).due("seed(-1)", 0).due("count(7)", -1));
    }

    private void toldRefused() {
        range(this::busy, 0, 4, "told(#, 0)");
        range(this::full, 0, 9, "told(#, 3)");
        range(this::busy, 0, 8, "told(0, #)");
        refused(this::run, BAD, "told(0, 0)", "told(-1, 0)", "told(0, 9)");
    }

    private void asRefused() {
        range(this::busy, 0, 4, "as(#, 0)");
        range(this::full, 0, 9, "as(#, 0)");
        refused(this::busy, BAD, "as(0, -1)", "as(0, 6)", "as(0, MAX)", "as(0, MIN)");
        refused(this::run, BAD, "as(0, 0)");
    }

    private void turnsRefused() {
        range(this::busy, 0, 4, "turns(#, 0)");
        range(this::full, 0, 9, "turns(#, 0)");
        range(this::busy, 0, 5, "turns(4, #)");
        refused(this::run, BAD, "turns(0, 0)");
    }

    private void setEach() {
        eachKind().due("set(3, 1, 0)", 1).due("told(3, 1)", 0).due("told(3, 2)", 4).due("told(3, 3)", 6);
        eachKind().due("set(3, 2, 0)", 4).due("told(3, 1)", 1).due("told(3, 2)", 0).due("told(3, 3)", 6);
        eachKind().due("set(3, 3, 0)", 6).due("told(3, 1)", 1).due("told(3, 2)", 4).due("told(3, 3)", 0);
        range(this::busy, 1, 3, "set(0, #, 0)");
    }

    private void setRefused() {
        range(this::busy, 0, 4, "set(#, 1, 0)");
        range(this::full, 0, 9, "set(#, 2, 0)");
        range(this::busy, 0, 7, "set(4, 1, #)");
        range(this::busy, 0, 7, "set(4, 2, #)");
        range(this::busy, 0, 7, "set(4, 3, #)");
        refused(this::run, BAD, "set(0, 1, 0)");
    }

    private void drawn() {
        at("Section 2", "KIND the rest of a draw by 6, AT that of one more by 8, TO that of one more by 8, OTHER that of one more by 8", this::drawnByRests);
        at("Section 2", "z becomes z * 1103515245 + 12345 (an int); it gives z >>> 8", this::drawsOfAnySign);
        at("Promise 8", "n (1 .. 10) of them", () -> run().due("deal(10)", 10).due("count(0)", 10));
        at("Promise 8", "as many as there is room for (no draws for others)", this::dealtToTheRoom);
        at("Promise 8", "how many came", () -> run().due("deal(1)", 1).due("deal(6)", 6).due("deal(5)", 3).due("deal(1)", 0).due("count(0)", 10));
        at("Promise 8", "BAD", this::dealRefused);
    }

    private void drawnByRests() {
        for (int seed = 0; seed < 60; seed++) {
            int z = seed;
            Run x = run("seed(" + seed + "); deal(2)");
            for (int bed = 0; bed < 2; bed++) {
                for (int what = 0; what < 4; what++) {
                    z = next(z);
                    x.due("told(" + bed + ", " + what + ")", (z >>> 8) % (what == 0 ? 6 : 8));
                }
            }
            x.due("count(7)", z);
        }
    }

    /** The first draw, and so the kind, is from a z above 0, and from one below 0. */
    private void drawsOfAnySign() {
        int[] seeds = {1, 2, 3, -1, -2, MIN, MAX, 0, 123456789, -987654321};
        int below = 0;
        for (int seed : seeds) {
            long wide = (long) seed * 1103515245L + 12345L;
            int z = (int) (wide & 0xFFFFFFFFL);
            long unsigned = wide & 0xFFFFFFFFL;
            below += z < 0 ? 1 : 0;
            run("seed(" + seed + "); deal(1)").due("told(0, 0)", (int) (unsigned / 256 % 6));
            run("carry(0); seed(" + seed + "); nights(1)").due("count(7)", z);
        }
        d.holds("of both signs there are some", below > 2 && below < seeds.length - 2);
    }

    private void dealtToTheRoom() {
        Run nine = run("deal(9); seed(5)").due("deal(10)", 1);
        nine.due("count(7)", next(next(next(next(5))))).due("count(0)", 10);
        nine.does("seed(5)").due("deal(10)", 0).due("deal(1)", 0).due("count(7)", 5).due("count(0)", 10);
        run("deal(8)").due("deal(2)", 2).due("deal(2)", 0);
    }

    private void dealRefused() {
        range(this::busy, 1, 10, "deal(#)");
        range(this::full, 1, 10, "deal(#)");
    }
}
