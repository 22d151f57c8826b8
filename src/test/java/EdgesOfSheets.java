/** Promises 33 to 41, and what section 5 says of sheets and slots. */
final class EdgesOfSheets extends Edges {
    EdgesOfSheets(Due d) {
        super(d);
    }

    @Override
    void all() {
        findings();
        sheets();
        marks();
        poured();
        read();
        copied();
        laid();
        asked();
        items();
        rests();
    }

    /** The places of a sheet as a slot tells them, - for no number. */
    private void places(Run x, int sheet, String due) {
        x.call("lay(4, 2, " + sheet + ")");
        StringBuilder all = new StringBuilder();
        int item = x.call("item(4, 0)");
        for (int place = 1; item != INDEX && item != NOTHING && place < 30; place++) {
            all.append(item == KIND ? "-" : String.valueOf(item)).append(' ');
            item = x.call("item(4, " + place + ")");
        }
        d.same("places of sheet " + sheet, all.toString().trim(), due);
    }

    private void findings() {
        at("Section 5", "NOTHING: a SHEET is MISSING", () -> {
            refused(this::busy, NOTHING, "mark(3, 0, 0)", "pour(3)", "reads(3)", "copy(3, 0, 0, 0, 0)", "copy(0, 0, 3, 0, 0)", "lay(0, 2, 3)", "whose(3, 0)");
            refused(() -> busy().does("sheet(0, -1, 0)"), NOTHING, "mark(0, 0, 0)", "pour(0)", "reads(0)", "copy(0, 0, 0, 0, 0)", "lay(0, 2, 0)", "whose(0, 0)");
        });
        at("Section 5", "a SLOT holds nothing", () -> {
            refused(this::busy, NOTHING, "ask(4, 0)", "item(4, 0)", "rest(4, 1)");
            refused(() -> busy().does("lay(0, 0, 0); lay(1, 0, 0); lay(2, 0, 0)"), NOTHING, "ask(0, 0)", "item(1, 0)", "rest(2, 1)");
        });
        at("Section 5", "INDEX: there is no such place", () -> {
            refused(this::busy, INDEX, "mark(0, 3, 0)", "mark(2, 0, 0)", "item(1, 3)", "copy(0, 2, 0, 0, 2)");
            busy().due("mark(0, 2, 0)", 1).due("item(1, 2)", -5).due("copy(0, 1, 0, 0, 2)", 2);
        });
        at("Section 5", "SIZE: a number of places is below 0", () -> {
            refused(this::busy, SIZE, "sheet(3, 0, -1)", "sheet(3, 1, MIN)");
            busy().due("sheet(3, 0, 0)", 0).due("sheet(3, -1, -1)", 0);
        });
        at("Section 5", "KIND: it is none (of a KIND, a number, or another thing)", () -> {
            // A bed that is not of it; no number; a sheet and a number for a bed, and the other ways about; two sorts.
            refused(this::busy, KIND, "as(0, 1)", "ask(0, 2)", "mark(0, 0, NONE)", "item(3, 1)", "ask(1, 0)", "ask(2, 0)", "item(0, 0)", "item(2, 0)", "rest(0, 1)", "rest(1, 1)", "copy(0, 0, 1, 0, 1)");
        });
    }

    private Run shorts() {
        return run("sheet(0, 0, 4); mark(0, 0, 5); mark(0, 1, 6); mark(0, 2, 7); mark(0, 3, 8); sheet(1, 0, 3); sheet(2, 1, 3); mark(2, 1, NONE); mark(2, 2, -7)");
    }

    private void sheets() {
        at("Section 5", "SHEETS 0 .. 3 are rows of shorts (sort 0) or floats (1; whole numbers)", this::fourSheets);
        at("Section 5", "with 0 to 24 places", this::placesOfSheets);
        at("Section 5", "A place of floats may be NO NUMBER", () -> {
            Run x = beds(2).does("one(7, 0); one(7, 0); sheet(0, 1, 2); mark(0, 0, NONE); mark(0, 1, NONE)");
            // It is no number for any call that reads it, and goes along with a copy and into a slot.
            x.due("pour(0)", 0).due("reads(0)", NONE).due("whose(0, 1)", 0).does("sheet(1, 1, 3)").due("copy(0, 0, 1, 1, 2)", 2).due("reads(1)", 0);
            places(x, 1, "0 - -");
            x.does("mark(0, 0, 7)").due("pour(0)", 1).due("reads(0)", NONE).due("whose(0, 1)", 1);
        });
        at("Promise 33", "all 0", () -> {
            places(shorts().does("sheet(0, 0, 4)"), 0, "0 0 0 0");
            places(shorts().does("sheet(0, 1, 5)"), 0, "0 0 0 0 0");
            places(shorts().does("sheet(2, 1, 3)"), 2, "0 0 0");
            places(shorts().does("sheet(0, -1, 4); sheet(0, 0, 4)"), 0, "0 0 0 0");
            places(shorts().does("sheet(0, 0, 1); sheet(0, 0, 4)"), 0, "0 0 0 0");
        });
        at("Promise 33", "(sort -1: MISSING, n any): n (0)", this::missingForAnyN);
        at("Promise 33", "BAD: sheet, sort, n above 24", this::sheetRefused);
        at("Promise 33", "SIZE", () -> refused(this::busy, SIZE, "sheet(0, 0, -1)", "sheet(3, 1, -1)", "sheet(0, 0, MIN)", "sheet(1, 1, -25)"));
        at("Promise 33", "BAD: sheet, sort, n above 24; SIZE", () -> refused(this::busy, BAD, "sheet(4, 0, -1)", "sheet(-1, 0, -1)", "sheet(0, 2, -1)", "sheet(0, -2, -1)", "sheet(4, 0, MIN)"));
    }

    private void fourSheets() {
        for (int sheet = 0; sheet < 4; sheet++) {
            for (int sort = 0; sort < 2; sort++) {
                Run x = run().due("sheet(" + sheet + ", " + sort + ", 2)", 2).due("mark(" + sheet + ", 1, 70000)", 1);
                places(x, sheet, sort == 0 ? "0 4464" : "0 70000");
                x.due("mark(" + sheet + ", 0, NONE)", sort == 0 ? KIND : 1);
                x.due("mark(" + (sheet + 1) % 4 + ", 0, 1)", NOTHING);
            }
        }
        run().due("sheet(4, 0, 1)", BAD).due("sheet(-1, 0, 1)", BAD);
    }

    private void placesOfSheets() {
        run().due("sheet(0, 0, 24)", 24).due("mark(0, 23, 1)", 1).due("mark(0, 24, 1)", INDEX);
        run().due("sheet(0, 1, 24)", 24).due("mark(0, 23, 1)", 1).due("mark(0, 24, 1)", INDEX);
        run().due("sheet(0, 0, 25)", BAD).due("reads(0)", NOTHING);
        run().due("sheet(0, 0, 0)", 0).due("mark(0, 0, 1)", INDEX).due("reads(0)", NONE).due("pour(0)", 0).due("lay(0, 2, 0)", 0).due("item(0, 0)", INDEX).due("copy(0, 0, 0, 0, 0)", 0);
        run().due("sheet(0, 1, 0)", 0).due("mark(0, 0, 1)", INDEX);
        run().due("sheet(0, 0, -1)", SIZE).due("reads(0)", NOTHING);
    }

    private void missingForAnyN() {
        for (String n : new String[] {"0", "1", "24", "25", "-1", "MIN", "MAX"}) {
            shorts().due("sheet(0, -1, " + n + ")", 0).due("reads(0)", NOTHING).due("mark(0, 0, 1)", NOTHING);
            run().due("sheet(3, -1, " + n + ")", 0).due("reads(3)", NOTHING);
        }
        shorts().due("sheet(4, -1, 0)", BAD).due("sheet(0, -2, 0)", BAD);
    }

    private void sheetRefused() {
        range(this::busy, 0, 3, "sheet(#, 0, 3)");
        range(this::busy, -1, 1, "sheet(2, #, 3)");
        refused(this::busy, BAD, "sheet(0, 0, 25)", "sheet(0, 1, 25)", "sheet(0, 0, MAX)", "sheet(3, 1, 256)", "sheet(0, 2, 25)");
    }

    private void marks() {
        at("Promise 34", "of shorts its lowest 16 bits", this::lowestBits);
        at("Promise 34", "of floats v, -99999 .. 99999", () -> {
            places(run("sheet(0, 1, 5); mark(0, 0, -99999); mark(0, 1, 99999); mark(0, 2, 32768); mark(0, 3, -32769)"), 0, "-99999 99999 32768 -32769 0");
            refused(this::busy, BAD, "mark(1, 0, 100000)", "mark(1, 0, -100000)");
        });
        at("Promise 34", "NONE: NO NUMBER", () -> {
            places(run("sheet(0, 1, 3); mark(0, 1, NONE)"), 0, "0 - 0");
            places(run("sheet(0, 1, 3); mark(0, 1, NONE); mark(0, 1, 4)"), 0, "0 4 0");
        });
        at("Promise 34", "BAD: sheet", () -> range(() -> busy().does("sheet(2, 0, 1); sheet(3, 1, 1)"), 0, 3, "mark(#, 0, 7)"));
        at("Promise 34", "NOTHING", () -> refused(this::busy, NOTHING, "mark(3, 0, 7)"));
        at("Promise 34", "INDEX", () -> {
            refused(this::busy, INDEX, "mark(0, 3, 7)", "mark(0, -1, 7)", "mark(1, 4, 7)", "mark(2, 0, 7)", "mark(0, MAX, 7)", "mark(0, MIN, 7)", "mark(0, 24, 7)");
            run("sheet(0, 0, 24); sheet(1, 1, 1)").due("mark(0, 0, 1)", 1).due("mark(0, 23, 1)", 1).due("mark(1, 0, 1)", 1).due("mark(1, 1, 1)", INDEX);
        });
        at("Promise 34", "KIND: NONE in a row of shorts", () -> refused(this::busy, KIND, "mark(0, 0, NONE)", "mark(0, 2, NONE)"));
        at("Promise 34", "BAD: v of floats", () -> refused(this::busy, BAD, "mark(1, 3, 100000)", "mark(1, 3, -100000)", "mark(1, 3, MIN)", "mark(1, 3, MAX)", "mark(1, 0, BAD)", "mark(1, 0, -1000000004)", "mark(1, 0, -1000000006)"));
        at("Promise 34", "BAD: sheet; NOTHING; INDEX; KIND: NONE in a row of shorts; BAD: v of floats", () -> {
            refused(this::busy, BAD, "mark(4, 99, NONE)", "mark(-1, -1, MAX)");
            refused(this::busy, NOTHING, "mark(3, 99, NONE)", "mark(3, -1, MAX)");
            refused(this::busy, INDEX, "mark(0, 3, NONE)", "mark(2, 0, NONE)", "mark(1, 4, 100000)", "mark(1, -1, MIN)");
        });
    }

    private void lowestBits() {
        int[][] rows = {{32767, 32767}, {32768, -32768}, {65535, -1}, {65536, 0}, {65537, 1}, {-32768, -32768}, {-32769, 32767}, {-65536, 0}, {MIN, 0}, {MAX, -1}, {100000, -31072}, {BAD, 13823}};
        for (int[] row : rows) {
            places(run("sheet(0, 0, 1)").due("mark(0, 0, " + row[0] + ")", 1), 0, String.valueOf(row[1]));
        }
    }

    private Run beds(int many) {
        Run x = run("seed(1)");
        for (int b = 0; b < many; b++) {
            x.does("bed(0, 1, 4, 2)");
        }
        return x;
    }

    private void poured() {
        at("Promise 35", "(each held within 0 .. 7", () -> {
            int[][] rows = {{0, 0}, {7, 7}, {8, 7}, {-1, 0}, {99999, 7}, {-99999, 0}, {1, 1}, {6, 6}};
            for (int[] row : rows) {
                beds(1).does("sheet(0, 1, 1); mark(0, 0, " + row[0] + ")").due("pour(0)", 1).due("told(0, 2)", row[1]).due("told(0, 1)", 1).due("told(0, 3)", 2);
            }
            beds(1).does("sheet(0, 0, 1); mark(0, 0, 32768)").due("pour(0)", 1).due("told(0, 2)", 0);
        });
        at("Promise 35", "NO NUMBER, and beyond the SHEET: they stay", () -> {
            beds(4).does("sheet(0, 1, 3); mark(0, 0, NONE); mark(0, 2, NONE)").due("pour(0)", 1).due("told(0, 2)", 4).due("told(1, 2)", 0).due("told(2, 2)", 4).due("told(3, 2)", 4);
            beds(2).does("sheet(0, 0, 0)").due("pour(0)", 0).due("told(0, 2)", 4);
            run("sheet(0, 0, 24)").due("pour(0)", 0);
            beds(10).does("sheet(0, 0, 24)").due("pour(0)", 10).due("told(9, 2)", 0);
            beds(10).does("sheet(0, 0, 9)").due("pour(0)", 9).due("told(8, 2)", 0).due("told(9, 2)", 4);
            places(beds(1).does("sheet(0, 1, 2); mark(0, 0, 12); mark(0, 1, NONE); pour(0)"), 0, "12 -");
        });
        at("Promise 35", "how many are otherwise then", () -> beds(3).does("sheet(0, 0, 3); mark(0, 0, 4); mark(0, 1, 5); mark(0, 2, 4)").due("pour(0)", 1).due("pour(0)", 0).does("sheet(0, 0, 3)").due("pour(0)", 3));
        at("Promise 35", "BAD", () -> range(() -> busy().does("sheet(3, 0, 2)"), 0, 3, "pour(#)"));
        at("Promise 35", "NOTHING", () -> {
            refused(this::busy, NOTHING, "pour(3)");
            refused(this::run, NOTHING, "pour(0)");
        });
    }

    private void read() {
        at("Promise 36", "The first place (of numbers alone)", () -> {
            Run x = run("one(3, 0); one(4, 0); one(5, 0); sheet(0, 1, 3); mark(0, 0, 3); mark(0, 1, 4); mark(0, 2, 5)").due("reads(0)", NONE);
            x.does("mark(0, 0, NONE)").due("reads(0)", NONE).does("mark(0, 2, 6)").due("reads(0)", 2).does("mark(0, 1, 5)").due("reads(0)", 1).does("mark(0, 0, 0)").due("reads(0)", 0);
            run("one(3, 0); sheet(0, 1, 1); mark(0, 0, NONE)").due("reads(0)", NONE);
            run("one(0, 3); sheet(0, 0, 1)").due("reads(0)", NONE).does("mark(0, 0, 3)").due("reads(0)", 0).does("mark(0, 0, 65536)").due("reads(0)", NONE).does("mark(0, 0, 8)").due("reads(0)", 0);
        });
        at("Promise 36", "(of places that are none of them all numbers are not)", () -> {
            run("one(0, 3); sheet(0, 0, 2)").due("reads(0)", 1);
            run("sheet(0, 0, 1)").due("reads(0)", 0);
            run("one(0, 3); sheet(0, 1, 4); mark(0, 1, NONE); mark(0, 2, NONE)").due("reads(0)", 3).does("mark(0, 3, NONE)").due("reads(0)", NONE);
            Run nine = run("sheet(0, 0, 10)");
            for (int i = 0; i < 9; i++) {
                nine.due("reads(0)", i).does("one(0, 1)");
            }
            nine.due("reads(0)", 9);
        });
        at("Promise 36", "NONE: there is none", () -> {
            refused(() -> run("sheet(0, 0, 0); sheet(1, 1, 2); mark(1, 0, NONE); mark(1, 1, NONE)"), NONE, "reads(0)", "reads(1)");
            refused(() -> run("one(0, 1); sheet(0, 0, 1)"), NONE, "reads(0)");
        });
        at("Promise 36", "NOTHING", () -> refused(this::busy, NOTHING, "reads(3)"));
        at("Promise 36", "BAD", () -> {
            for (int sheet = 0; sheet < 4; sheet++) {
                run("sheet(" + sheet + ", 0, 1)").due("reads(" + sheet + ")", 0);
            }
            refused(this::busy, BAD, "reads(4)", "reads(-1)", "reads(MIN)", "reads(MAX)");
        });
    }

    private void copied() {
        at("Promise 37", "(or the same), as they were", () -> {
            places(shorts().due("copy(0, 0, 0, 1, 3)", 3), 0, "5 5 6 7");
            places(shorts().due("copy(0, 1, 0, 0, 3)", 3), 0, "6 7 8 8");
            places(shorts().due("copy(0, 0, 0, 0, 4)", 4), 0, "5 6 7 8");
            places(shorts().due("copy(0, 0, 0, 2, 2)", 2), 0, "5 6 5 6");
        });
        at("Promise 37", "(From a SHEET, its place, to a SHEET, its place.)", () -> {
            places(shorts().due("copy(0, 2, 1, 1, 2)", 2), 1, "0 7 8");
            places(shorts().due("copy(1, 1, 0, 2, 2)", 2), 0, "5 6 0 0");
            places(shorts().does("sheet(3, 1, 4)").due("copy(2, 1, 3, 2, 2)", 2), 3, "0 0 - -7");
            places(shorts().does("copy(0, 0, 1, 0, 3); mark(0, 0, 9)"), 1, "5 6 7");
        });
        at("Promise 37", "BAD", () -> {
            range(() -> busy().does("sheet(1, 0, 0); sheet(3, 0, 2)"), 0, 3, "copy(#, 0, 0, 0, 0)");
            range(() -> busy().does("sheet(1, 0, 0); sheet(3, 0, 2)"), 0, 3, "copy(0, 0, #, 0, 0)");
        });
        at("Promise 37", "NOTHING", () -> refused(this::busy, NOTHING, "copy(3, 0, 0, 0, 0)", "copy(0, 0, 3, 0, 0)", "copy(3, 0, 3, 0, 0)"));
        at("Promise 37", "KIND: they are not of one sort", () -> refused(this::busy, KIND, "copy(0, 0, 1, 0, 1)", "copy(1, 0, 0, 0, 1)", "copy(2, 0, 1, 0, 0)"));
        at("Promise 37", "INDEX", this::copyBeyond);
        at("Promise 37", "BAD; NOTHING; KIND: they are not of one sort; INDEX", () -> {
            refused(this::busy, BAD, "copy(4, 0, 3, 0, 0)", "copy(3, 0, 4, 0, 0)", "copy(-1, 99, 0, 0, 1)");
            refused(this::busy, NOTHING, "copy(3, 99, 1, 0, 0)", "copy(1, 0, 3, 99, -1)");
            refused(this::busy, KIND, "copy(0, 99, 1, 0, 1)", "copy(1, 0, 0, -1, 1)", "copy(0, 0, 1, 0, 99)", "copy(0, 0, 1, 0, -1)");
        });
    }

    private void copyBeyond() {
        // Sheet 0 has three places, sheet 2 none; each bound just held, and just not.
        Run x = busy().due("copy(0, 3, 0, 3, 0)", 0).due("copy(0, 0, 0, 0, 3)", 3).due("copy(0, 2, 0, 0, 1)", 1).due("copy(0, 0, 0, 2, 1)", 1).due("copy(2, 0, 0, 3, 0)", 0);
        x.due("copy(0, 1, 0, 0, 2)", 2);
        refused(this::busy, INDEX, "copy(0, 4, 0, 0, 0)", "copy(0, 0, 0, 4, 0)", "copy(0, -1, 0, 0, 1)", "copy(0, 0, 0, -1, 1)", "copy(0, -1, 0, 0, 0)", "copy(0, 0, 0, -1, 0)");
        refused(this::busy, INDEX, "copy(0, 3, 0, 0, 1)", "copy(0, 0, 0, 3, 1)", "copy(0, 1, 0, 0, 3)", "copy(0, 0, 0, 1, 3)", "copy(0, 0, 0, 0, 4)", "copy(2, 0, 0, 0, 1)", "copy(0, 0, 2, 0, 1)", "copy(0, 0, 0, 0, -1)", "copy(0, 2, 0, 2, -1)");
        refused(this::busy, INDEX, "copy(0, MAX, 0, 0, 1)", "copy(0, 0, 0, MAX, 1)", "copy(0, 0, 0, 0, MAX)", "copy(0, 1, 0, 0, MAX)", "copy(0, 0, 0, 1, MAX)", "copy(0, 0, 0, 0, MIN)", "copy(0, MIN, 0, 0, 1)", "copy(0, 0, 0, MIN, 1)", "copy(0, MAX, 0, MAX, MAX)", "copy(0, MIN, 0, MIN, MIN)", "copy(0, MAX, 0, 0, MIN)");
    }

    private void laid() {
        at("Section 5", "SLOTS 0 .. 4", () -> {
            Run x = run();
            for (int slot = 0; slot < 5; slot++) {
                x.due("lay(" + slot + ", 3, " + (slot + 10) + ")", 0);
            }
            for (int slot = 0; slot < 5; slot++) {
                x.due("rest(" + slot + ", 100)", slot + 10);
            }
            x.due("lay(5, 3, 1)", BAD).due("lay(-1, 3, 1)", BAD);
        });
        at("Section 5", "a BED (as it is then, for good)", () -> {
            run("bed(3, 1, 4, 2); lay(0, 1, 0); set(0, 1, 7); set(0, 2, 7); turns(0, 5)").due("ask(0, 3)", 16);
            run("bed(4, 1, 4, 2); lay(0, 1, 0); set(0, 3, 7)").due("ask(0, 4)", 8);
            run("keep(); bed(1, 1, 4, 2); lay(0, 1, 0); back()").due("count(0)", 0).due("ask(0, 1)", 8);
            run("bed(0, 1, 4, 2); lay(0, 1, 0); bed(0, 0, 7, 0); lay(1, 1, 1)").due("ask(0, 0)", 3).due("ask(1, 0)", 7);
        });
        at("Section 5", "a SHEET (a row of its own, as it was then)", () -> {
            shorts().does("lay(0, 2, 0); mark(0, 0, 9)").due("item(0, 0)", 5).does("sheet(0, 1, 1)").due("item(0, 3)", 8).does("sheet(0, -1, 0)").due("item(0, 1)", 6);
            shorts().does("lay(0, 2, 0); lay(1, 2, 2); lay(2, 2, 1)").due("item(0, 0)", 5).due("item(1, 1)", KIND).due("item(2, 0)", 0).due("item(2, 3)", INDEX);
        });
        at("Promise 38", "what it held (0 .. 3)", () -> shorts().does("bed(0, 0, 0, 0)").due("lay(3, 0, 0)", 0).due("lay(3, 1, 0)", 0).due("lay(3, 2, 0)", 1).due("lay(3, 3, 0)", 2).due("lay(3, 3, 1)", 3)
            .due("lay(3, 1, 0)", 3).due("lay(3, 1, 0)", 1).due("lay(3, 0, 0)", 1).due("lay(3, 2, 0)", 0).due("lay(3, 2, 0)", 2).due("lay(3, 0, 0)", 2).due("lay(3, 3, 0)", 0).due("lay(3, 0, 0)", 3).due("lay(3, 0, 0)", 0));
        at("Promise 38", "thing 0 nothing", () -> {
            for (String k : new String[] {"0", "-1", "99", "MIN", "MAX"}) {
                run("lay(0, 3, 8)").due("lay(0, 0, " + k + ")", 3).due("rest(0, 5)", NOTHING).due("lay(0, 3, " + k + ")", 0);
            }
        });
        at("Promise 38", "3 the number k", () -> run().due("lay(0, 3, MIN)", 0).due("rest(0, 1000)", -648).due("lay(0, 3, MAX)", 3).due("rest(0, 1000)", 647).due("lay(0, 3, NONE)", 3).due("rest(0, 10)", -5));
        at("Promise 38", "BAD: slot, thing, k", () -> {
            range(this::busy, 0, 4, "lay(#, 3, 5)");
            range(() -> busy().does("sheet(0, 0, 1)"), 0, 3, "lay(1, #, 0)");
            range(this::busy, 0, 4, "lay(1, 1, #)");
            range(this::full, 0, 9, "lay(1, 1, #)");
            range(() -> busy().does("sheet(3, 0, 1)"), 0, 3, "lay(1, 2, #)");
            refused(this::run, BAD, "lay(0, 1, 0)", "lay(5, 0, 0)");
        });
        at("Promise 38", "NOTHING: that SHEET is MISSING", () -> refused(this::busy, NOTHING, "lay(0, 2, 3)", "lay(4, 2, 3)", "lay(2, 2, 3)"));
        at("Promise 38", "BAD: slot, thing, k; NOTHING", () -> refused(this::busy, BAD, "lay(5, 2, 3)", "lay(-1, 2, 3)", "lay(0, 4, 3)", "lay(0, 2, 4)"));
    }

    private void asked() {
        at("Promise 39", "WORTH (by its own KIND) of the BED in a SLOT", () -> {
            run("bed(3, 1, 4, 2); lay(0, 1, 0)").due("ask(0, 0)", 16).due("ask(0, 1)", 16).due("ask(0, 3)", 16);
            run("bed(4, 1, 4, 2); lay(0, 1, 0)").due("ask(0, 0)", 8).due("ask(0, 2)", 8).due("ask(0, 4)", 8);
            run("bed(5, 1, 4, 2); lay(0, 1, 0)").due("ask(0, 0)", 1).due("ask(0, 5)", 1);
        });
        at("Promise 39", "KIND: it is no BED, or not of that KIND, nor of one under it", () -> {
            // Of the busy slots: 0 a hammock, 1 a sheet, 2 a number.
            refused(this::busy, KIND, "ask(0, 2)", "ask(0, 4)", "ask(0, 5)", "ask(1, 0)", "ask(2, 0)", "ask(3, 5)");
            refused(() -> run("bed(0, 1, 4, 2); lay(0, 1, 0)"), KIND, "ask(0, 1)", "ask(0, 2)", "ask(0, 3)", "ask(0, 4)", "ask(0, 5)");
            refused(() -> run("bed(1, 1, 4, 2); lay(0, 1, 0)"), KIND, "ask(0, 3)", "ask(0, 2)", "ask(0, 4)", "ask(0, 5)");
        });
        at("Promise 39", "taken for one of a KIND (0 .. 5)", () -> {
            for (int kind = 0; kind < 6; kind++) {
                run("bed(" + kind + ", 1, 4, 2); lay(0, 1, 0)").due("ask(0, " + kind + ")", new int[] {3, 8, 6, 16, 8, 1}[kind]).due("ask(0, -1)", BAD).due("ask(0, 6)", BAD);
            }
        });
        at("Promise 39", "NOTHING", () -> refused(this::busy, NOTHING, "ask(4, 0)", "ask(4, 5)"));
        at("Promise 39", "BAD", () -> {
            range(() -> run("bed(0, 1, 2, 3); lay(0, 1, 0); lay(1, 1, 0); lay(2, 1, 0); lay(3, 1, 0); lay(4, 1, 0)"), 0, 4, "ask(#, 0)");
            refused(this::busy, BAD, "ask(0, 6)", "ask(0, -1)", "ask(0, MIN)", "ask(0, MAX)");
        });
        at("Promise 39", "BAD; NOTHING; KIND", () -> {
            refused(this::busy, BAD, "ask(4, 6)", "ask(4, -1)", "ask(1, 6)", "ask(2, -1)", "ask(5, 0)");
            refused(this::run, NOTHING, "ask(0, 5)");
        });
    }

    private void items() {
        at("Promise 40", "KIND: it is no SHEET", () -> refused(this::busy, KIND, "item(0, 0)", "item(2, 0)"));
        at("Promise 40", "INDEX", () -> {
            run("sheet(0, 0, 24); mark(0, 23, 9); lay(0, 2, 0)").due("item(0, 0)", 0).due("item(0, 23)", 9).due("item(0, 24)", INDEX).due("item(0, -1)", INDEX);
            refused(this::busy, INDEX, "item(1, 3)", "item(1, -1)", "item(3, 4)", "item(1, MIN)", "item(1, MAX)", "item(1, 24)");
            refused(() -> run("sheet(0, 0, 0); lay(0, 2, 0)"), INDEX, "item(0, 0)", "item(0, -1)");
        });
        at("Promise 40", "KIND: NO NUMBER", () -> {
            refused(this::busy, KIND, "item(3, 1)");
            busy().due("item(3, 0)", 0).due("item(3, 3)", 9).due("item(1, 2)", -5);
        });
        at("Promise 40", "NOTHING", () -> refused(this::busy, NOTHING, "item(4, 0)", "item(4, -1)"));
        at("Promise 40", "BAD: slot", () -> {
            for (int slot = 0; slot < 5; slot++) {
                run("sheet(0, 0, 1); lay(" + slot + ", 2, 0)").due("item(" + slot + ", 0)", 0);
            }
            refused(this::busy, BAD, "item(5, 0)", "item(-1, 0)", "item(MIN, 0)", "item(MAX, 0)");
        });
        at("Promise 40", "BAD: slot; NOTHING; KIND: it is no SHEET; INDEX; KIND: NO NUMBER", () -> {
            refused(this::busy, BAD, "item(5, 99)", "item(-1, -1)");
            refused(this::busy, NOTHING, "item(4, 99)");
            refused(this::busy, KIND, "item(0, 99)", "item(2, -1)");
        });
    }

    private void rests() {
        at("Promise 41", "The rest of the number in a SLOT by n", () -> {
            int[][] rows = {{17, 5, 2}, {17, -5, 2}, {-17, 5, -2}, {-17, -5, -2}, {17, 17, 0}, {17, 18, 17}, {0, 5, 0}, {MIN, -1, 0}, {MIN, MAX, -1}, {MAX, MIN, MAX}, {MIN, MIN, 0}, {17, 1, 0}, {17, -1, 0}};
            for (int[] row : rows) {
                run("lay(0, 3, " + row[0] + ")").due("rest(0, " + row[1] + ")", row[2]);
            }
        });
        at("Promise 41", "NO: n is 0", () -> {
            refused(this::busy, NO, "rest(2, 0)");
            run("lay(0, 3, 0)").due("rest(0, 0)", NO).due("rest(0, 1)", 0).due("rest(0, -1)", 0);
        });
        at("Promise 41", "KIND: it is no number", () -> refused(this::busy, KIND, "rest(0, 5)", "rest(1, 5)"));
        at("Promise 41", "NOTHING", () -> refused(this::busy, NOTHING, "rest(4, 5)"));
        at("Promise 41", "BAD: slot", () -> refused(this::busy, BAD, "rest(5, 5)", "rest(-1, 5)", "rest(MIN, 5)", "rest(MAX, 5)"));
        at("Promise 41", "BAD: slot; NOTHING; KIND: it is no number; NO: n is 0", () -> {
            refused(this::busy, BAD, "rest(5, 0)", "rest(-1, 0)");
            refused(this::busy, NOTHING, "rest(4, 0)");
            refused(this::busy, KIND, "rest(0, 0)", "rest(1, 0)", "rest(3, 0)");
        });
    }
}
