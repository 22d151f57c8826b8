/** Promises 42 to 46, and what section 5 says of rows and images. */
final class EdgesOfRows extends Edges {
    EdgesOfRows(Due d) {
        super(d);
    }

    @Override
    void all() {
        terms();
        told();
        checked();
        checkedByBounds();
        images();
        counts();
    }

    private void terms() {
        at("Terms", "Sets of TOWNS, of FOLK are told by bits", () -> {
            run("bed(4, 0, 7, 0)").due("reach(0)", 1 + 128).due("told(0, 7)", 1 + 128).due("reach(7)", 128);
            Run x = full().due("who(0)", 1 + 256).due("who(7)", 128).due("land(4)", 1 + 16 + 256).due("behind(0, 2)", 1 + 16 + 256);
            x.does("sends(8, 3, 1); sends(0, 3, 1)").due("land(5)", 1 + 256);
        });
        at("Terms", "and changes nothing", () -> {
            refused(this::busy, BAD, "bed(0, 0, 0, 8)", "set(0, 3, 8)", "turns(0, 6)", "carry(101)", "deal(11)", "one(0, 8)", "sends(0, 2, 10)", "nights(101)", "trim(7)", "sheet(0, 0, 25)", "mark(1, 0, 100000)", "lay(0, 1, 5)");
            refused(this::full, FULL, "bed(0, 0, 0, 0)", "one(0, 0)", "feed(0, 0, 0)", "tell(0)");
            refused(this::busy, SIZE, "sheet(0, 0, -1)");
            refused(this::busy, INDEX, "mark(0, 3, 0)", "copy(0, 0, 0, 1, 3)");
            refused(this::busy, KIND, "mark(0, 0, NONE)", "copy(0, 0, 1, 0, 1)");
            refused(this::busy, NOTHING, "lay(0, 2, 3)", "copy(0, 0, 3, 0, 1)");
        });
        at("Terms", "of several the one that stands first with it", () -> {
            refused(this::full, BAD, "bed(6, 0, 0, 0)", "one(8, 0)", "sheet(4, 0, -1)", "mark(4, 99, 0)", "copy(4, 99, 0, 0, -1)", "lay(5, 2, 3)", "ask(5, 0)", "item(5, 99)", "rest(5, 0)", "whose(4, 0)");
            refused(this::run, BAD, "way(0, 8)", "missed(2)", "home(0)", "brought(0, 3)", "why(3)", "check(0)");
            refused(this::run, NOTHING, "mark(0, 99, NONE)", "copy(0, 99, 1, 0, -1)", "item(0, 99)", "rest(0, 0)", "whose(0, 0)", "ask(0, 5)");
            refused(this::busy, KIND, "copy(0, 99, 1, 0, 1)", "item(0, 99)", "rest(0, 0)");
            refused(this::busy, INDEX, "mark(0, 99, NONE)", "mark(1, 99, MAX)");
        });
        at("Terms", "(but the tape and the numbers that wait, where told)", () -> {
            refusedBut(this::busy, this::busyWithoutTape, -106, "text()");
            refusedBut(this::full, this::fullWithoutTape, FULL, "text()");
            refusedBut(this::busy, this::busyWithoutNumbers, BAD, "check(0)");
            refusedBut(() -> run("tell(1); tell(2)"), this::run, NO, "check(1)");
        });
        at("What it is", "An object is used for at most 512 calls", () -> {
            Run x = run("bed(0, 0, 1, 0); bed(0, 1, 0, 0); one(0, 1); carry(0); sheet(0, 0, 24); keep()");
            for (int i = 0; i < 100; i++) {
                x.due("nights(1)", 1).due("folk(0, 0)", (i + 1) % 2).due("reads(0)", i % 2 == 0 ? 0 : 1).due("brought(0, 2)", i % 2).does("tell(1)");
                if (i % 50 == 49) {
                    x.due("check(30)", 3);
                }
            }
            x.due("land(0)", 100).due("home(0)", 1).due("behind(100, 0)", 200).due("back()", 2);
        });
    }

    private void told() {
        at("Promise 42", "One more number waits: how many", () -> {
            Run x = run();
            for (int i = 1; i <= 60; i++) {
                x.due("count(5)", i - 1).due("tell(" + (i % 2 == 0 ? "MIN" : "BAD") + ")", i);
            }
            x.due("tell(0)", FULL).due("count(5)", 60);
        });
        at("Promise 42", "FULL: 60 wait", () -> refused(this::full, FULL, "tell(0)", "tell(MIN)"));
    }

    /** One sleeps at home each night, one is awake there, one is awake elsewhere: told are 1 3, 2 3, 3 3, .. */
    private Run sleepers() {
        return still("bed(2, 0, 0, 0); one(0, 0); one(3, 3); one(4, 5); keep()");
    }

    private Run tells(Run x, int... numbers) {
        for (int v : numbers) {
            x.does("tell(" + v + ")");
        }
        return x;
    }

    private void checked() {
        at("Section 5", "THE NIGHTS TOLD: of n NIGHTS, one behind the other, by THE IMAGE: SLEPT; those at HOME, as a set, behind each", this::nightsTold);
        at("Promise 43", "(none do then, whatever is answered)", () -> {
            sleepers().does("tell(1); tell(3)").due("check(1)", 0).due("count(5)", 0).due("tell(1)", 1);
            sleepers().does("tell(1); tell(4)").due("check(1)", 2).due("count(5)", 0);
            sleepers().does("tell(1)").due("check(0)", BAD).due("count(5)", 0).due("check(1)", 1);
            sleepers().does("tell(1)").due("check(31)", BAD).due("count(5)", 0);
            run("tell(1)").due("check(1)", NO).due("count(5)", 0).due("tell(7)", 1);
            full().due("check(31)", BAD).due("count(5)", 0).due("tell(7)", 1);
        });
        at("Promise 43", "two by two: 0", () -> {
            tells(sleepers(), 1, 3).due("check(1)", 0);
            tells(sleepers(), 1, 3, 2, 3).due("check(2)", 0);
            Run x = sleepers();
            for (int n = 1; n <= 30; n++) {
                tells(x, n, 3);
            }
            x.due("count(5)", 60).due("check(30)", 0);
        });
        at("Promise 43", "else 1 and how many stand right ahead of the first that is not", () -> {
            tells(sleepers(), 0, 3).due("check(1)", 1);
            tells(sleepers(), 1, 2).due("check(1)", 2);
            tells(sleepers(), 1, 3, 1, 3).due("check(2)", 3);
            tells(sleepers(), 1, 3, 2, 7).due("check(2)", 4);
            tells(sleepers(), 9, 9, 9, 9).due("check(2)", 1);
            // What stands right behind it does not count, nor what is too many behind it.
            tells(sleepers(), 1, 0, 2, 3, 3, 3, 4).due("check(3)", 2);
        });
        at("Promise 43", "(or is missing, or one too many)", () -> {
            sleepers().due("check(1)", 1).due("check(30)", 1);
            tells(sleepers(), 1).due("check(1)", 2);
            tells(sleepers(), 1, 3).due("check(2)", 3);
            tells(sleepers(), 1, 3, 2).due("check(2)", 4);
            tells(sleepers(), 1, 3, 2).due("check(1)", 3);
            tells(sleepers(), 1, 3, 2, 3).due("check(1)", 3);
            tells(sleepers(), 1, 3, 2, 3, 3, 3).due("check(2)", 5);
        });
    }

    private void nightsTold() {
        Run x = still("bed(0, 0, 1, 0); bed(0, 1, 2, 0); one(0, 1); one(1, 2); nights(1); keep(); nights(5); sends(0, 0, 0)");
        // Two slept already. The first goes on from its home to 2, then both stay awake there.
        tells(x, 3, 2, 3, 2).due("check(2)", 0);
        tells(x, 1, 2, 1, 2).due("check(2)", 1);
        x.does("turns(0, 5); seed(4); carry(100)").text("hours 0", 0);
        tells(x, 3, 2, 3, 2).due("check(2)", 0).due("count(1)", 6);
        tells(x, 3, 2).does("back()").due("check(1)", 0);
        // By the draws to come of the image, and by its text.
        Run drawn = run("carry(100); seed(9); bed(0, 0, 0, 0); one(0, 0)").text("hours n=0|n=2", 0).does("keep(); seed(1)");
        Run goesOn = run("carry(100); seed(9); bed(0, 0, 0, 0); one(0, 0)").text("hours n=0|n=2", 0);
        for (int night = 0; night < 4; night++) {
            goesOn.does("nights(1)");
            tells(drawn, goesOn.call("land(0)"), goesOn.call("land(4)"));
        }
        drawn.due("check(4)", 0);
    }

    private void checkedByBounds() {
        at("Promise 43", "n (1 .. 30", () -> {
            tells(sleepers(), 1, 3).due("check(1)", 0);
            sleepers().due("check(30)", 1);
        });
        at("Promise 43", "fewer, if THE NIGHT would be above 9999", this::fewerNights);
        at("Promise 43", "BAD", () -> {
            refusedBut(this::busy, this::busyWithoutNumbers, BAD, "check(0)", "check(31)", "check(-1)", "check(MIN)", "check(MAX)");
            refused(this::busyWithoutNumbers, BAD, "check(0)", "check(31)");
        });
        at("Promise 43", "NO: there is no IMAGE", () -> {
            refusedBut(() -> run("bed(0, 1, 2, 3); tell(1)"), () -> run("bed(0, 1, 2, 3)"), NO, "check(1)", "check(30)");
            refused(this::run, NO, "check(1)");
        });
        at("Promise 43", "BAD; NO", () -> refused(this::run, BAD, "check(0)", "check(31)"));
    }

    private void fewerNights() {
        String sleeper = "bed(0, 0, 0, 0); one(0, 0); keep()";
        tells(atNight(9998, sleeper), 1, 1).due("check(30)", 0);
        tells(atNight(9998, sleeper), 1, 1).due("check(1)", 0);
        tells(atNight(9998, sleeper), 1, 1, 2, 1).due("check(2)", 3);
        tells(atNight(9998, sleeper), 1).due("check(2)", 2);
        atNight(9999, sleeper).due("check(1)", 0).due("check(30)", 0);
        tells(atNight(9999, sleeper), 1, 1).due("check(1)", 1);
        tells(atNight(9997, sleeper), 1, 1, 2, 1).due("check(3)", 0);
        tells(atNight(9997, sleeper), 1, 1, 2, 1).due("check(2)", 0);
        // It is the image's night that counts.
        tells(atNight(9998, sleeper).does("nights(1)"), 1, 1).due("check(30)", 0);
        tells(run("bed(0, 0, 0, 0); one(0, 0); carry(0); keep(); nights(100)"), 1, 1).due("check(1)", 0);
        Run all = atNight(9969, sleeper);
        for (int n = 1; n <= 30; n++) {
            tells(all, n, 1);
        }
        all.due("check(30)", 0);
    }

    private void images() {
        at("Section 5", "AN IMAGE keeps all", this::keepsAll);
        at("Section 5", "but SHEETS, SLOTS, numbers that wait, THE TAPE", this::keepsNot);
        at("Section 5", "all can become as it is (again and again)", () -> {
            Run x = run("bed(0, 1, 2, 3); keep()");
            for (int again = 0; again < 3; again++) {
                x.does("set(0, 2, 7); bed(0, 0, 0, 0); nights(5); one(1, 1)").due("back()", 1).due("told(0, 2)", 2).due("count(1)", 0).due("count(3)", 0).due("count(7)", 1);
            }
            x.due("back()", 1).due("keep()", 1).due("back()", 1);
        });
        at("Promise 44", "how many BEDS", () -> {
            run().due("keep()", 0);
            run("bed(0, 0, 0, 0)").due("keep()", 1);
            run("deal(10)").due("keep()", 10).due("keep()", 10);
            // The one that was kept last is the image.
            run("keep(); bed(0, 1, 1, 1); keep(); bed(0, 2, 2, 2)").due("back()", 1).due("told(0, 1)", 1);
            run("bed(0, 1, 1, 1); keep(); bed(0, 2, 2, 2); keep(); bed(0, 3, 3, 3); back(); set(0, 1, 5)").due("back()", 2).due("told(0, 1)", 1).due("told(1, 1)", 2);
        });
        at("Promise 45", "how many BEDS", () -> {
            run("keep(); deal(10)").due("back()", 0).due("told(0, 0)", BAD);
            run("deal(10); keep()").due("back()", 10);
        });
        at("Promise 45", "NO: there is none", () -> {
            refused(() -> run("bed(0, 1, 2, 3); one(1, 2); nights(3); tell(5)").tape("fee s"), NO, "back()");
            refused(this::run, NO, "back()");
        });
    }

    private void keepsAll() {
        String start = "bed(4, 1, 2, 3); bed(5, 2, 2, 2); one(1, 5); one(2, 5); sends(0, 2, 7); carry(60); seed(12); nights(2)";
        String[] changes = {"bed(0, 0, 0, 0)", "set(0, 1, 6)", "set(0, 2, 6)", "set(0, 3, 6)", "turns(0, 2)", "one(0, 0)", "sends(0, 0, 7)", "sends(0, 1, 7)", "sends(0, 2, 1)", "sends(0, 3, 1)", "carry(61)", "seed(13)", "nights(1)", "nights(9)", "deal(3)"};
        String due = run(start).text("hours 1", 0).text("fee s", 1).does("keep()").all();
        for (String change : changes) {
            Run x = run(start).text("hours 1", 0).text("fee s", 1).does("keep()").does(change).does("back()");
            d.same(change + ", then back()", x.all(), due);
        }
        for (String text : new String[] {"hours 0", "fee a", "fine 1"}) {
            Run x = run(start).text("hours 1", 0).text("fee s", 1).does("keep()").text(text, 2).text(text, 3).does("back()");
            d.same(text + ", then back()", x.all(), due);
        }
        // Texts that come behind it take the numbers of those that are no more.
        run().text("fee 1", 0).does("keep()").text("fee 2", 1).does("back()").text("fine 3", 1).due("fee()", 1).due("why(2)", 1).does("back()").due("why(2)", NONE).due("textTold(1, 0)", BAD);
        // Whom the image does not know is no more; what the image counts is counted again.
        run("bed(5, 0, 0, 0); one(0, 1); keep(); nights(1); one(0, 1)").due("land(0)", 1).due("land(2)", 1).does("back()").due("land(0)", 0).due("land(2)", 0).due("land(5)", 0).due("land(6)", 1).due("folk(1, 0)", BAD);
        run("keep(); one(0, 1); nights(5)").due("land(1)", 5).does("back()").due("land(1)", 0);
        run("carry(100); bed(0, 0, 0, 0); keep(); nights(5)").due("land(3)", 5).does("back()").due("land(3)", 0);
    }

    private void keepsNot() {
        Run x = run("bed(0, 1, 7, 0); sheet(0, 0, 2); mark(0, 0, 4); lay(2, 3, 9); tell(5)").tape("fee 7").does("keep()");
        x.does("sheet(0, 0, 3); mark(0, 0, 8); sheet(1, 1, 1); lay(2, 3, 10); lay(3, 1, 0); tell(6); trim(4)").does("back()");
        x.due("mark(0, 2, 1)", 1).due("mark(1, 0, NONE)", 1).due("rest(2, 100)", 10).due("ask(3, 0)", 6).due("count(5)", 2).due("count(6)", 4);
        x.does("lay(0, 2, 0)").due("item(0, 0)", 8).due("text()", -104);
        // Keeping does not touch them either.
        x.does("tell(7)").tape("fee s").does("keep()").due("count(5)", 3).due("count(6)", 5).due("text()", 0).due("rest(2, 100)", 10);
    }

    private void counts() {
        at("Promise 46", "0 how many BEDS, 1 THE NIGHT, 2 CARRY, 3 how many FOLK, 4 TEXTS, 5 numbers that wait, 6 bytes of THE TAPE, 7 z", () -> {
            Run x = full().due("count(0)", 10).due("count(1)", 0).due("count(2)", 20).due("count(3)", 9).due("count(4)", 14).due("count(5)", 60).due("count(6)", 96);
            x.does("nights(7); carry(33); seed(MIN)").due("count(1)", 7).due("count(2)", 33).due("count(7)", MIN);
        });
        at("Promise 46", "BAD", () -> {
            range(this::busy, 0, 7, "count(#)");
            range(this::run, 0, 7, "count(#)");
        });
    }
}
