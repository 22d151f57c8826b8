/** Promises 10 to 15, and what sections 1 and 2 say of folk and nights. */
final class EdgesOfFolk extends Edges {
    EdgesOfFolk(Due d) {
        super(d);
    }

    @Override
    void all() {
        folk();
        lyingDown();
        waking();
        carrying();
        nights();
        land();
    }

    private void folk() {
        at("Section 1", "FOLK, 9 at most, numbered from 0", this::nineFolk);
        at("Section 1", "HOME (a TOWN)", () -> run().due("one(0, 7)", 0).due("one(7, 0)", 1).due("folk(0, 0)", 0).due("folk(0, 1)", 7).due("folk(1, 0)", 7).due("folk(1, 1)", 0));
        at("Section 1", "TIRED 0 .. 9 (0 at first)", this::tiredAtFirst);
        at("Section 1", "GONE (0, 1; 0 at first)", this::goneAtFirst);
        at("Promise 10", "BAD", this::oneRefused);
        at("Promise 10", "FULL", () -> refused(this::full, FULL, "one(0, 0)", "one(7, 7)"));
        at("Promise 10", "BAD; FULL", () -> refused(this::full, BAD, "one(8, 0)", "one(0, 8)", "one(-1, 0)", "one(0, -1)"));
        at("Promise 11", "BAD", this::folkRefused);
        at("Promise 11", "4 what hours gives now", this::hoursNow);
        at("Promise 12", "(what 0 .. 3)", this::sendsEach);
        at("Promise 12", "BAD", this::sendsRefused);
        at("Promise 13", "(GONE or not)", () -> run("one(3, 0); one(3, 0); one(2, 3); sends(1, 3, 1)").due("who(3)", 3).due("who(2)", 4).due("who(0)", 0));
        at("Promise 13", "as a set", this::whoOfAll);
        at("Promise 13", "BAD", this::whoRefused);
    }

    private void nineFolk() {
        Run x = run();
        for (int i = 0; i < 9; i++) {
            x.due("folk(" + i + ", 0)", BAD).due("one(" + i % 8 + ", 1)", i).due("folk(" + i + ", 0)", i % 8).due("count(3)", i + 1).due("land(6)", i + 1);
        }
        x.due("one(0, 0)", FULL).due("folk(9, 0)", BAD).due("count(3)", 9).due("who(0)", 1 | 1 << 8);
    }

    private void tiredAtFirst() {
        run("one(0, 1)").due("folk(0, 2)", 0).due("sends(0, 2, 9)", 0).due("folk(0, 2)", 9).due("sends(0, 2, 10)", BAD).due("sends(0, 2, -1)", BAD).due("sends(0, 2, 0)", 9);
        // A number that somebody had behind the image is a new one's again.
        run("keep(); one(0, 1); sends(0, 2, 5); back(); one(0, 1)").due("folk(0, 2)", 0);
    }

    private void goneAtFirst() {
        run("one(0, 1)").due("folk(0, 3)", 0).due("sends(0, 3, 1)", 0).due("folk(0, 3)", 1).due("sends(0, 3, 2)", BAD).due("sends(0, 3, -1)", BAD).due("sends(0, 3, 0)", 1);
        run("keep(); one(0, 1); sends(0, 3, 1); back(); one(0, 1)").due("folk(0, 3)", 0);
    }

    private void oneRefused() {
        range(this::busy, 0, 7, "one(#, 0)");
        range(this::busy, 0, 7, "one(0, #)");
    }

    private void folkRefused() {
        range(this::busy, 0, 4, "folk(#, 0)");
        range(this::full, 0, 8, "folk(#, 1)");
        range(this::busy, 0, 4, "folk(0, #)");
        refused(this::run, BAD, "folk(0, 0)", "folk(-1, 0)", "folk(0, 5)");
    }

    private void hoursNow() {
        Run x = run("one(0, 1); one(0, 1); one(3, 1); sends(0, 2, 5)").text("hours t", 0);
        x.due("folk(0, 4)", 5).due("folk(1, 4)", 0);
        x.text("hours n", 1).due("folk(0, 4)", 0).does("nights(2)").due("folk(0, 4)", 2);
        x.text("hours w", 2).due("folk(0, 4)", 2).due("folk(2, 4)", 1).does("sends(1, 3, 1)").due("folk(0, 4)", 1).due("folk(1, 4)", 1);
    }

    private void sendsEach() {
        String[] greatest = {"7", "7", "9", "1"};
        for (int what = 0; what < 4; what++) {
            Run x = run("one(3, 4); one(3, 4); sends(0, 2, 6)");
            int[] was = {3, 4, 6, 0};
            x.due("sends(0, " + what + ", " + greatest[what] + ")", was[what]).due("sends(0, " + what + ", 0)", Integer.parseInt(greatest[what]));
            was[what] = 0;
            for (int its = 0; its < 4; its++) {
                x.due("folk(0, " + its + ")", was[its]);
            }
            x.due("folk(1, 0)", 3).due("folk(1, 1)", 4).due("folk(1, 2)", 0).due("folk(1, 3)", 0).due("land(2)", 0);
        }
        range(this::busy, 0, 3, "sends(2, #, 1)");
    }

    private void sendsRefused() {
        range(this::busy, 0, 4, "sends(#, 0, 0)");
        range(this::full, 0, 8, "sends(#, 3, 1)");
        range(this::busy, 0, 7, "sends(1, 0, #)");
        range(this::busy, 0, 7, "sends(1, 1, #)");
        range(this::busy, 0, 9, "sends(1, 2, #)");
        range(this::busy, 0, 1, "sends(1, 3, #)");
        refused(this::run, BAD, "sends(0, 0, 0)");
    }

    private void whoOfAll() {
        Run x = run().due("who(7)", 0);
        for (int i = 0; i < 9; i++) {
            x.does("one(7, 0)").due("who(7)", (2 << i) - 1);
        }
    }

    private void whoRefused() {
        range(this::busy, 0, 7, "who(#)");
        range(this::run, 0, 7, "who(#)");
    }

    private void lyingDown() {
        at("Section 2", "each that is not GONE", this::whoIsGoneLiesNowhere);
        at("Section 2", "(held within 0 .. 9; without a TEXT: 1)", this::hoursAreHeld);
        at("Section 2", "is above 0 for it", this::hoursAboveNone);
        at("Section 2", "FOLK by numbers", this::folkByNumbers);
        at("Section 2", "the first BED, by numbers, that is AT its TOWN", this::theFirstBedThere);
        at("Section 2", "in which fewer lie than it is WIDE", this::untilItIsFull);
        at("Section 2", "If it lies nowhere: AWAKE is 1 more", this::awake);
        at("Section 2", "TIRED 1 more (9 at most)", this::tiredToNine);
    }

    private void whoIsGoneLiesNowhere() {
        still("bed(2, 0, 1, 0); one(0, 5); sends(0, 3, 1); sends(0, 2, 4)").due("nights(1)", 0)
            .due("folk(0, 0)", 0).due("folk(0, 2)", 4).due("land(0)", 0).due("land(1)", 0).due("land(2)", 0);
        still("bed(2, 0, 1, 0); one(0, 5); one(0, 5); sends(0, 3, 1)").due("nights(1)", 1).due("folk(1, 0)", 1);
        still("bed(0, 0, 1, 0); one(0, 5); sends(0, 3, 1); sends(0, 3, 0)").due("nights(1)", 1);
    }

    private void hoursAreHeld() {
        hours("9", 9);
        hours("10", 9);
        hours("9999*9999", 9);
        hours("0", 0);
        hours("0-1", 0);
        hours("0-9999*9999", 0);
        hours("8", 8);
        hours("1", 1);
        run("one(0, 0)").due("folk(0, 4)", 1);
        run("one(0, 0)").text("fee 7", 0).text("fine 8", 1).due("folk(0, 4)", 1);
        still("bed(0, 0, 1, 0); one(0, 0)").text("fee 0", 0).due("nights(1)", 1);
    }

    private void hours(String e, int held) {
        run("one(0, 0)").text("hours " + e, 0).due("folk(0, 4)", held);
    }

    private void hoursAboveNone() {
        String inABed = "bed(0, 0, 0, 0); one(0, 0)";
        still(inABed).text("hours 0", 0).due("nights(1)", 0).due("land(1)", 1).due("folk(0, 2)", 1);
        still(inABed).text("hours 1", 0).due("nights(1)", 1).due("land(1)", 0).due("folk(0, 2)", 0);
        still(inABed).text("hours 0-1", 0).due("nights(1)", 0).due("land(1)", 1);
        still(inABed).text("hours 2", 0).due("nights(1)", 1);
        // One alone is tired enough: it is asked of each by itself.
        still(inABed + "; one(0, 0); sends(1, 2, 3)").text("hours t", 0).due("nights(1)", 1).due("folk(0, 2)", 1).due("folk(1, 2)", 0);
    }

    private void folkByNumbers() {
        still("bed(2, 0, 1, 0); one(0, 5); one(0, 5)").due("nights(1)", 1).due("folk(0, 0)", 1).due("folk(1, 0)", 0);
        still("bed(2, 0, 1, 0); one(0, 5); one(0, 5); sends(0, 0, 3); sends(0, 0, 0)").due("nights(1)", 1).due("folk(0, 0)", 1);
    }

    private void theFirstBedThere() {
        still("bed(0, 3, 7, 0); bed(0, 0, 1, 0); bed(0, 0, 2, 0); one(0, 5)").due("nights(1)", 1).due("folk(0, 0)", 1);
        still("bed(0, 3, 0, 0); one(0, 5)").due("nights(1)", 0).due("folk(0, 0)", 0);
        // Who wakes where another bed stands does not go on in the same night.
        still("bed(0, 0, 1, 0); bed(0, 1, 2, 0); one(0, 5)").due("nights(1)", 1).due("folk(0, 0)", 1);
        still("bed(0, 1, 2, 0); bed(0, 0, 1, 0); one(0, 5)").due("nights(1)", 1).due("folk(0, 0)", 1);
        Run ten = still("seed(1)");
        for (int b = 0; b < 9; b++) {
            ten.does("bed(0, 7, 1, 0)");
        }
        ten.does("bed(0, 0, 6, 0); one(0, 5)").due("nights(1)", 1).due("folk(0, 0)", 6);
    }

    private void untilItIsFull() {
        Run x = still("bed(2, 0, 1, 0); bed(1, 0, 2, 0); bed(4, 0, 3, 0)");
        for (int i = 0; i < 7; i++) {
            x.does("one(0, 5)");
        }
        x.due("nights(1)", 6);
        int[] towns = {1, 2, 2, 3, 3, 3, 0};
        for (int i = 0; i < 7; i++) {
            x.due("folk(" + i + ", 0)", towns[i]);
        }
        // What was full one night is empty the next.
        still("bed(2, 0, 0, 0); one(0, 5)").due("nights(3)", 3).due("land(1)", 0);
    }

    private void awake() {
        still("one(0, 0); one(4, 0)").due("nights(1)", 0).due("land(1)", 2).due("nights(3)", 0).due("land(1)", 8);
        still("bed(2, 0, 0, 0); one(0, 0); one(0, 0)").due("nights(1)", 1).due("land(1)", 1);
    }

    private void tiredToNine() {
        still("one(0, 0); sends(0, 2, 8); nights(1)").due("folk(0, 2)", 9).does("nights(1)").due("folk(0, 2)", 9).due("land(1)", 2);
        still("one(0, 0); nights(100)").due("folk(0, 2)", 9).due("land(1)", 100);
        still("one(0, 0); nights(8)").due("folk(0, 2)", 8);
    }

    private void waking() {
        at("Section 2", "they all are in the TOWN where it TAKES them", this::allWakeThere);
        at("Section 2", "TIRED is 0, SLEPT 1 more for each", this::tiredNoMore);
        at("Section 2", "each in which some lie", this::emptyBedsDoNothing);
        at("Section 2", "of a PLAIN one: they are GONE, LOST is 1 more for each", this::plain);
        at("Section 2", "of a HAMMOCK: then AT and TO change places", this::hammock);
    }

    private void allWakeThere() {
        still("bed(5, 0, 7, 0); one(0, 0); one(0, 0); one(0, 0); one(0, 0); one(0, 0); nights(1)")
            .due("who(7)", 15).due("who(0)", 16);
        // A double that takes one takes it to where it stands; the night after with another one, where it belongs.
        still("bed(1, 0, 7, 0); one(0, 0); nights(1)").due("who(0)", 1).does("one(0, 0); nights(1)").due("who(7)", 3);
    }

    private void tiredNoMore() {
        still("bed(1, 0, 7, 0); one(0, 0); sends(0, 2, 9)").due("nights(1)", 1).due("folk(0, 2)", 0).due("land(0)", 1).due("folk(0, 0)", 0);
        still("bed(4, 0, 0, 0); one(0, 0); one(0, 0); one(0, 0); sends(2, 2, 9)").due("nights(1)", 3).due("folk(2, 2)", 0).due("land(0)", 3).due("nights(2)", 6).due("land(0)", 9);
    }

    private void emptyBedsDoNothing() {
        still("bed(3, 0, 5, 0); bed(5, 0, 5, 0); one(1, 0); nights(1)").due("told(0, 1)", 0).due("told(0, 2)", 5).due("land(2)", 0).due("land(0)", 0);
    }

    private void plain() {
        still("bed(5, 0, 7, 0); one(0, 7); one(0, 7); one(0, 7); one(0, 7); one(0, 7); nights(1)")
            .due("land(2)", 4).due("land(5)", 15).due("land(0)", 4).due("land(1)", 1).due("folk(0, 3)", 1).due("folk(0, 0)", 7).due("folk(4, 3)", 0)
            .does("nights(1)").due("land(2)", 5).due("land(5)", 31).due("land(0)", 5);
        still("bed(5, 0, 0, 0); one(0, 7); nights(3)").due("land(2)", 1).due("land(0)", 1).due("land(1)", 0);
        still("bed(0, 0, 7, 0); one(0, 7); nights(1)").due("land(2)", 0).due("land(5)", 0);
    }

    private void hammock() {
        still("bed(3, 2, 6, 1); one(2, 0); one(2, 0); nights(1)").due("who(6)", 3).due("told(0, 1)", 6).due("told(0, 2)", 2).due("told(0, 3)", 1)
            .does("nights(1)").due("who(2)", 3).due("told(0, 1)", 2).due("told(0, 2)", 6);
        still("bed(3, 2, 2, 1); one(2, 0); nights(1)").due("told(0, 1)", 2).due("told(0, 2)", 2);
        still("bed(1, 2, 6, 1); one(2, 0); one(2, 0); nights(1)").due("told(0, 1)", 2).due("told(0, 2)", 6);
    }

    /** A z from which the first draw's rest by 100 is the first, the second's by beds the bed, the third's by 8 the town. */
    private static int seedOf(int first, int beds, int bed, int town) {
        for (int seed = -4000000; seed < 4000000; seed++) {
            int a = next(seed);
            int b = next(a);
            if (rest(a, 100) == first && rest(b, beds) == bed && rest(next(b), 8) == town) {
                return seed;
            }
        }
        throw new IllegalStateException("no such seed");
    }

    private void carrying() {
        at("Section 2", "if its rest by 100 is below CARRY", this::belowCarry);
        at("Section 2", "(and there are BEDS)", this::noneToCarry);
        at("Section 2", "the BED is its rest by how many there are", this::whichBed);
        at("Section 2", "AT is the TOWN that is its rest by 8 (CARRIED 1 more)", this::whichTown);
        at("Section 2", "THE NIGHT is 1 more", () -> run().does("nights(1)").due("count(1)", 1).does("nights(100)").due("count(1)", 101));
    }

    private void belowCarry() {
        int[] firsts = {0, 1, 19, 20, 50, 98, 99};
        for (int first : firsts) {
            int seed = seedOf(first, 1, 0, 6);
            int drawn = next(seed);
            run("seed(" + seed + "); bed(0, 1, 2, 3); carry(" + first + "); nights(1)").due("land(3)", 0).due("told(0, 1)", 1).due("count(7)", drawn);
            run("seed(" + seed + "); bed(0, 1, 2, 3); carry(" + (first + 1) + "); nights(1)").due("land(3)", 1).due("told(0, 1)", 6).due("count(7)", next(next(drawn)));
        }
        run("carry(0); bed(0, 1, 2, 3); nights(100)").due("land(3)", 0);
        run("carry(100); bed(0, 1, 2, 3); nights(100)").due("land(3)", 100);
    }

    private void noneToCarry() {
        run("carry(100); seed(3); nights(1)").due("land(3)", 0).due("count(7)", next(3));
        run("carry(100); seed(3); bed(0, 0, 0, 0); nights(1)").due("land(3)", 1).due("count(7)", next(next(next(3))));
    }

    private void whichBed() {
        int[][] ofMany = {{10, 9}, {10, 0}, {2, 1}, {1, 0}, {3, 2}};
        for (int[] row : ofMany) {
            Run x = run("carry(1); seed(" + seedOf(0, row[0], row[1], 7) + ")");
            for (int b = 0; b < row[0]; b++) {
                x.does("bed(0, 2, 3, 4)");
            }
            x.does("nights(1)");
            for (int b = 0; b < row[0]; b++) {
                x.due("told(" + b + ", 1)", b == row[1] ? 7 : 2).due("told(" + b + ", 2)", 3).due("told(" + b + ", 3)", 4);
            }
        }
    }

    private void whichTown() {
        for (int town = 0; town < 8; town++) {
            // Carried to where it stands is carried too.
            run("carry(1); seed(" + seedOf(0, 1, 0, town) + "); bed(0, 2, 3, 4); nights(1)").due("told(0, 1)", town).due("land(3)", 1);
        }
        // It is carried behind the waking: who lay in it is not in the town to which it came.
        run("carry(1); seed(" + seedOf(0, 1, 0, 7) + "); bed(1, 2, 3, 4); one(2, 0); nights(1)").due("told(0, 1)", 7).due("folk(0, 0)", 2);
    }

    private void nights() {
        String sleeper = "bed(0, 0, 0, 0); one(0, 0); one(5, 0)";
        at("Promise 14", "n (1 .. 100) NIGHTS", () -> still(sleeper).due("nights(1)", 1).due("count(1)", 1).due("nights(100)", 100).due("count(1)", 101));
        at("Promise 14", "(no more than up to 9999)", () -> {
            atNight(9998, sleeper).due("nights(100)", 1).due("count(1)", 9999).due("land(0)", 1).due("land(1)", 1);
            atNight(9998, sleeper).due("nights(1)", 1).due("count(1)", 9999);
            atNight(9899, sleeper).due("nights(100)", 100).due("count(1)", 9999);
            atNight(9900, sleeper).due("nights(100)", 99).due("count(1)", 9999).due("land(1)", 99);
            atNight(9997, sleeper).due("nights(2)", 2).due("count(1)", 9999).due("nights(1)", 0);
        });
        at("Section 1", "9999 at most", () -> atNight(9999, sleeper).does("seed(8); carry(100)").due("nights(1)", 0).due("nights(100)", 0)
            .due("count(1)", 9999).due("land(0)", 0).due("land(1)", 0).due("land(3)", 0).due("count(7)", 8).due("folk(1, 2)", 0));
        at("Promise 14", "how often one SLEPT in them", () -> still(sleeper).due("nights(2)", 2).due("nights(3)", 3).due("land(0)", 5).due("land(1)", 5));
        at("Promise 14", "BAD", () -> {
            range(this::busy, 1, 100, "nights(#)");
            refused(this::run, BAD, "nights(0)", "nights(101)");
            refused(() -> atNight(9999, sleeper), BAD, "nights(0)", "nights(101)");
        });
    }

    private void land() {
        at("Promise 15", "What is 0 SLEPT, 1 AWAKE, 2 LOST, 3 CARRIED", this::counted);
        at("Promise 15", "4 those at HOME, as a set", () -> run("one(0, 1); one(1, 1); one(2, 2); one(3, 4)").due("land(4)", 6).does("sends(3, 1, 3)").due("land(4)", 14).does("sends(1, 0, 0)").due("land(4)", 12));
        at("Promise 15", "5 those that are GONE, as a set", this::allGone);
        at("Promise 15", "BAD", () -> {
            range(this::busy, 0, 6, "land(#)");
            range(this::run, 0, 6, "land(#)");
        });
    }

    private void counted() {
        run("carry(100); bed(5, 0, 0, 0); one(0, 0); one(0, 0); one(1, 0); one(1, 0); one(1, 0); nights(1)")
            .due("land(0)", 2).due("land(1)", 3).due("land(2)", 2).due("land(3)", 1).due("land(6)", 5);
        // Sending somebody away is not losing them.
        run("one(0, 0); sends(0, 3, 1)").due("land(2)", 0).due("land(5)", 1);
    }

    private void allGone() {
        Run x = run().due("land(5)", 0).due("land(4)", 0);
        for (int i = 0; i < 9; i++) {
            x.does("one(1, 2); sends(" + i + ", 3, 1)").due("land(5)", (2 << i) - 1).due("land(4)", 0);
        }
    }
}
