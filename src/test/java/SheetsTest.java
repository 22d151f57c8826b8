/** Promises 33 to 41: sheets, slots. */
public final class SheetsTest {
    private static final int BAD = -1000000001, NO = -1000000002, NONE = -1000000005, NOTHING = -1000000011, KIND = -1000000012, INDEX = -1000000013, SIZE = -1000000014;
    private static final int MIN = Integer.MIN_VALUE, MAX = Integer.MAX_VALUE;
    private static final int[] NO_SHEET = {-1, 4, MIN, MAX};
    private static final int[] NO_SLOT = {-1, 5, MIN, MAX};
    private static final Due d = new Due("SheetsTest");

    public static void main(String[] args) {
        sheet();
        mark();
        pour();
        reads();
        copy();
        copyIndexes();
        lay();
        ask();
        item();
        rest();
        d.end();
    }

    /** The places of a sheet, as a slot tells them. */
    private static String places(BedsArePlaces x, int sheet) {
        StringBuilder all = new StringBuilder();
        if (x.lay(4, 2, sheet) == NOTHING) {
            return "missing";
        }
        for (int place = 0; x.item(4, place) != INDEX; place++) {
            int item = x.item(4, place);
            all.append(item == KIND ? "-" : String.valueOf(item)).append(' ');
        }
        return all.toString().trim();
    }

    private static BedsArePlaces withRow(int sort, int... places) {
        BedsArePlaces x = new BedsArePlaces();
        x.sheet(0, sort, places.length);
        for (int i = 0; i < places.length; i++) {
            x.mark(0, i, places[i]);
        }
        return x;
    }

    private static void sheet() {
        d.promise(33);
        BedsArePlaces x = new BedsArePlaces();
        d.due("sheet(0, 0, 24)", x.sheet(0, 0, 24), 24);
        d.due("sheet(1, 1, 0)", x.sheet(1, 1, 0), 0);
        d.due("sheet(3, 1, 3)", x.sheet(3, 1, 3), 3);
        x.mark(3, 1, 8);
        d.holds("places", places(x, 3).equals("0 8 0"));
        d.holds("no places", places(x, 1).isEmpty());
        d.holds("missing", places(x, 2).equals("missing"));
        d.due("sheet(3, 0, 2), made anew", x.sheet(3, 0, 2), 2);
        d.holds("all 0 again", places(x, 3).equals("0 0"));
        d.due("mark(3, 0, NONE): it is of shorts now", x.mark(3, 0, NONE), KIND);
        x.mark(3, 1, 5);
        int[] noSort = {-2, 2, MIN, MAX};
        for (int sort : noSort) {
            d.due("sheet(3, " + sort + ", 1)", x.sheet(3, sort, 1), BAD);
            d.due("sheet(3, " + sort + ", -1)", x.sheet(3, sort, -1), BAD);
        }
        for (int sheet : NO_SHEET) {
            d.due("sheet(" + sheet + ", 0, 1)", x.sheet(sheet, 0, 1), BAD);
            d.due("sheet(" + sheet + ", 0, -1)", x.sheet(sheet, 0, -1), BAD);
            d.due("sheet(" + sheet + ", -1, 0)", x.sheet(sheet, -1, 0), BAD);
        }
        for (int sort = 0; sort < 2; sort++) {
            d.due("sheet(3, " + sort + ", 25)", x.sheet(3, sort, 25), BAD);
            d.due("sheet(3, " + sort + ", MAX)", x.sheet(3, sort, MAX), BAD);
            d.due("sheet(3, " + sort + ", -1)", x.sheet(3, sort, -1), SIZE);
            d.due("sheet(3, " + sort + ", MIN)", x.sheet(3, sort, MIN), SIZE);
        }
        d.holds("what is refused changes nothing", places(x, 3).equals("0 5"));
        int[] any = {0, 7, 25, -1, MIN, MAX};
        for (int n : any) {
            d.due("sheet(3, -1, " + n + ")", x.sheet(3, -1, n), 0);
            d.holds("missing", places(x, 3).equals("missing"));
            x.sheet(3, 0, 1);
        }
    }

    private static void mark() {
        d.promise(34);
        BedsArePlaces x = withRow(0, 1, 32767, 32768, 65535, 65536, -32769, MIN, MAX, NONE + 1, -1);
        d.holds("shorts keep the lowest 16 bits: " + places(x, 0), places(x, 0).equals("1 32767 -32768 -1 0 32767 0 -1 " + (short) (NONE + 1) + " -1"));
        d.due("mark(0, 0, 70000)", x.mark(0, 0, 70000), 1);
        d.due("mark(0, 0, NONE)", x.mark(0, 0, NONE), KIND);
        d.holds("as it was", places(x, 0).startsWith("4464 "));
        BedsArePlaces y = withRow(1, -99999, 99999, 0, 40000);
        d.holds("floats: " + places(y, 0), places(y, 0).equals("-99999 99999 0 40000"));
        d.due("mark(0, 1, NONE)", y.mark(0, 1, NONE), 1);
        int[] noFloat = {-100000, 100000, MIN, MAX, NONE + 1, NONE - 1, BAD};
        for (int v : noFloat) {
            d.due("mark(0, 0, " + v + ")", y.mark(0, 0, v), BAD);
            d.due("mark(0, 4, " + v + "), no such place", y.mark(0, 4, v), INDEX);
        }
        d.holds("floats, one no number: " + places(y, 0), places(y, 0).equals("-99999 - 0 40000"));
        d.due("mark(0, 1, 3)", y.mark(0, 1, 3), 1);
        d.holds("a number again", places(y, 0).equals("-99999 3 0 40000"));
        for (int sheet : NO_SHEET) {
            d.due("mark(" + sheet + ", 0, 0)", y.mark(sheet, 0, 0), BAD);
        }
        d.due("mark(1, 0, 0), missing", y.mark(1, 0, 0), NOTHING);
        d.due("mark(1, -1, MAX), missing", y.mark(1, -1, MAX), NOTHING);
        int[] noPlace = {-1, 4, 24, MIN, MAX};
        for (int place : noPlace) {
            d.due("mark(0, " + place + ", 0)", y.mark(0, place, 0), INDEX);
        }
        d.due("mark(0, 10, NONE), of shorts", x.mark(0, 10, NONE), INDEX);
        d.due("mark(0, 10, 0)", x.mark(0, 10, 0), INDEX);
    }

    private static void pour() {
        d.promise(35);
        BedsArePlaces x = withRow(1, 3, -5, 99999, NONE, 4);
        d.due("pour(0), no beds", x.pour(0), 0);
        for (int b = 0; b < 6; b++) {
            x.bed(0, 7, 4, 1);
        }
        d.due("pour(0)", x.pour(0), 3);
        int[] due = {3, 0, 7, 4, 4, 4};
        for (int b = 0; b < 6; b++) {
            d.due("told(" + b + ", 1)", x.told(b, 1), 7);
            d.due("told(" + b + ", 2)", x.told(b, 2), due[b]);
            d.due("told(" + b + ", 3)", x.told(b, 3), 1);
        }
        d.due("pour(0) again", x.pour(0), 0);
        d.holds("the sheet is as it was", places(x, 0).equals("3 -5 99999 - 4"));
        x.sheet(2, 0, 24);
        x.mark(2, 0, 40000);
        x.mark(2, 1, 9);
        d.due("pour(2), of shorts", x.pour(2), 6);
        d.due("told(0, 2), below 0", x.told(0, 2), 0);
        d.due("told(1, 2), above 7", x.told(1, 2), 7);
        d.due("told(5, 2)", x.told(5, 2), 0);
        d.due("pour(1), missing", x.pour(1), NOTHING);
        for (int sheet : NO_SHEET) {
            d.due("pour(" + sheet + ")", x.pour(sheet), BAD);
        }
    }

    private static void reads() {
        d.promise(36);
        BedsArePlaces x = withRow(1, 3, NONE, 5, 6, NONE);
        d.due("reads(0), no folk", x.reads(0), 0);
        x.mark(0, 0, NONE);
        d.due("reads(0), no folk, the first number", x.reads(0), 2);
        x.one(3, 0);
        x.one(4, 0);
        x.one(5, 0);
        d.due("reads(0), there is no number 3", x.reads(0), 3);
        x.one(6, 0);
        d.due("reads(0), the last is no number", x.reads(0), NONE);
        x.mark(0, 1, 5);
        d.due("reads(0)", x.reads(0), 1);
        x.mark(0, 1, 4);
        x.mark(0, 0, 3);
        d.due("reads(0), all", x.reads(0), NONE);
        x.mark(0, 4, 0);
        d.due("reads(0), one too many", x.reads(0), 4);
        x.sends(0, 0, 0);
        d.due("reads(0), one moved", x.reads(0), 0);
        x.sheet(1, 0, 0);
        d.due("reads(1), no places", x.reads(1), NONE);
        x.sheet(1, 0, 1);
        d.due("reads(1), of shorts", x.reads(1), NONE);
        x.sheet(1, 0, 2);
        d.due("reads(1), of shorts", x.reads(1), 1);
        d.due("reads(2), missing", x.reads(2), NOTHING);
        for (int sheet : NO_SHEET) {
            d.due("reads(" + sheet + ")", x.reads(sheet), BAD);
        }
    }

    private static void copy() {
        d.promise(37);
        BedsArePlaces x = withRow(0, 0, 1, 2, 3, 4, 5);
        d.due("copy(0, 0, 0, 1, 5)", x.copy(0, 0, 0, 1, 5), 5);
        d.holds("as they were: " + places(x, 0), places(x, 0).equals("0 0 1 2 3 4"));
        d.due("copy(0, 2, 0, 0, 4)", x.copy(0, 2, 0, 0, 4), 4);
        d.holds("as they were: " + places(x, 0), places(x, 0).equals("1 2 3 4 3 4"));
        x.sheet(1, 0, 4);
        d.due("copy(0, 3, 1, 1, 2)", x.copy(0, 3, 1, 1, 2), 2);
        d.holds("copied: " + places(x, 1), places(x, 1).equals("0 4 3 0"));
        BedsArePlaces y = withRow(1, 7, NONE, -9);
        y.sheet(3, 1, 3);
        d.due("copy(0, 0, 3, 0, 3)", y.copy(0, 0, 3, 0, 3), 3);
        d.holds("floats: " + places(y, 3), places(y, 3).equals("7 - -9"));
        y.mark(0, 0, 1);
        d.holds("on its own: " + places(y, 3), places(y, 3).equals("7 - -9"));
    }

    private static void copyIndexes() {
        BedsArePlaces x = withRow(0, 1, 2, 3);
        x.sheet(1, 0, 2);
        x.sheet(2, 1, 3);
        d.due("copy(0, 3, 1, 2, 0), none from the end", x.copy(0, 3, 1, 2, 0), 0);
        int[][] no = {{4, 0, 0}, {-1, 0, 1}, {0, 3, 0}, {0, -1, 1}, {2, 0, 2}, {0, 1, 2}, {0, 0, 3}, {0, 0, -1}, {0, 0, MIN}, {0, 0, MAX}, {MAX, 0, 1}, {0, MAX, 1}, {MAX, MAX, MAX}, {MIN, 0, MIN}, {1, 0, MAX}, {MAX, 0, MIN}, {3, 0, -1}};
        for (int[] row : no) {
            d.due("copy(0, " + row[0] + ", 1, " + row[1] + ", " + row[2] + ")", x.copy(0, row[0], 1, row[1], row[2]), INDEX);
        }
        d.holds("nothing came", places(x, 1).equals("0 0"));
        d.due("copy(0, 0, 2, 0, 1), of two sorts", x.copy(0, 0, 2, 0, 1), KIND);
        d.due("copy(2, 9, 0, 9, -1), of two sorts", x.copy(2, 9, 0, 9, -1), KIND);
        d.due("copy(0, 0, 3, 0, 1), missing", x.copy(0, 0, 3, 0, 1), NOTHING);
        d.due("copy(3, 9, 2, 9, 9), missing", x.copy(3, 9, 2, 9, 9), NOTHING);
        d.due("copy(3, 0, 3, 0, 0), missing", x.copy(3, 0, 3, 0, 0), NOTHING);
        for (int sheet : NO_SHEET) {
            d.due("copy(" + sheet + ", 0, 0, 0, 1)", x.copy(sheet, 0, 0, 0, 1), BAD);
            d.due("copy(0, 0, " + sheet + ", 0, 1)", x.copy(0, 0, sheet, 0, 1), BAD);
            d.due("copy(3, 0, " + sheet + ", 0, 1), missing", x.copy(3, 0, sheet, 0, 1), BAD);
        }
    }

    private static void lay() {
        d.promise(38);
        BedsArePlaces x = withRow(0, 5, 6);
        x.bed(0, 1, 4, 0);
        d.due("lay(0, 1, 0)", x.lay(0, 1, 0), 0);
        x.set(0, 1, 7);
        x.set(0, 2, 0);
        x.turns(0, 5);
        d.due("ask(0, 0): a bed as it was then", x.ask(0, 0), 3);
        d.due("lay(0, 2, 0)", x.lay(0, 2, 0), 1);
        x.mark(0, 0, 9);
        d.due("item(0, 0): a sheet as it was then", x.item(0, 0), 5);
        x.sheet(0, -1, 0);
        d.due("item(0, 1): though it is missing now", x.item(0, 1), 6);
        d.due("lay(0, 2, 0), missing", x.lay(0, 2, 0), NOTHING);
        d.due("item(0, 1): it holds what it held", x.item(0, 1), 6);
        d.due("lay(0, 3, MIN)", x.lay(0, 3, MIN), 2);
        d.due("rest(0, 1000)", x.rest(0, 1000), -648);
        d.due("lay(0, 0, MAX)", x.lay(0, 0, MAX), 3);
        d.due("rest(0, 1000), nothing", x.rest(0, 1000), NOTHING);
        d.due("lay(0, 0, 0)", x.lay(0, 0, 0), 0);
        for (int slot = 0; slot < 5; slot++) {
            d.due("lay(" + slot + ", 3, 1)", x.lay(slot, 3, slot), 0);
        }
        for (int slot = 0; slot < 5; slot++) {
            d.due("rest(" + slot + ", 9)", x.rest(slot, 9), slot);
        }
        for (int slot : NO_SLOT) {
            d.due("lay(" + slot + ", 0, 0)", x.lay(slot, 0, 0), BAD);
        }
        int[] noThing = {-1, 4, MIN, MAX};
        for (int thing : noThing) {
            d.due("lay(1, " + thing + ", 0)", x.lay(1, thing, 0), BAD);
        }
        int[] noBed = {-1, 1, 10, MIN, MAX};
        for (int k : noBed) {
            d.due("lay(1, 1, " + k + ")", x.lay(1, 1, k), BAD);
        }
        for (int k : NO_SHEET) {
            d.due("lay(1, 2, " + k + ")", x.lay(1, 2, k), BAD);
        }
        d.due("lay(1, 2, 3), missing", x.lay(1, 2, 3), NOTHING);
        d.due("rest(1, 9): it holds what it held", x.rest(1, 9), 1);
    }

    private static void ask() {
        d.promise(39);
        BedsArePlaces x = withRow(0, 5);
        int[] worth = {3, 8, 6, 16, 8, 1};
        boolean[][] is = {
            {true, false, false, false, false, false},
            {true, true, false, false, false, false},
            {true, false, true, false, false, false},
            {true, true, false, true, false, false},
            {true, false, true, false, true, false},
            {true, false, false, false, false, true},
        };
        for (int kind = 0; kind < 6; kind++) {
            x.bed(kind, 4, 1, 2);
            x.lay(0, 1, kind);
            for (int as = 0; as < 6; as++) {
                d.due("ask(0, " + as + ") of kind " + kind, x.ask(0, as), is[kind][as] ? worth[kind] : KIND);
            }
        }
        x.lay(1, 2, 0);
        x.lay(2, 3, 0);
        d.due("ask(1, 0), a sheet", x.ask(1, 0), KIND);
        d.due("ask(2, 0), a number", x.ask(2, 0), KIND);
        d.due("ask(3, 0), nothing", x.ask(3, 0), NOTHING);
        d.due("ask(3, 6), nothing", x.ask(3, 6), BAD);
        int[] noKind = {-1, 6, MIN, MAX};
        for (int kind : noKind) {
            d.due("ask(0, " + kind + ")", x.ask(0, kind), BAD);
        }
        for (int slot : NO_SLOT) {
            d.due("ask(" + slot + ", 0)", x.ask(slot, 0), BAD);
        }
    }

    private static void item() {
        d.promise(40);
        BedsArePlaces x = withRow(1, -7, NONE, 99999);
        x.bed(0, 0, 0, 0);
        x.lay(0, 2, 0);
        x.lay(1, 1, 0);
        x.lay(2, 3, 0);
        d.due("item(0, 0)", x.item(0, 0), -7);
        d.due("item(0, 1), no number", x.item(0, 1), KIND);
        d.due("item(0, 2)", x.item(0, 2), 99999);
        int[] noPlace = {-1, 3, 24, MIN, MAX};
        for (int place : noPlace) {
            d.due("item(0, " + place + ")", x.item(0, place), INDEX);
            d.due("item(1, " + place + "), a bed", x.item(1, place), KIND);
            d.due("item(2, " + place + "), a number", x.item(2, place), KIND);
            d.due("item(3, " + place + "), nothing", x.item(3, place), NOTHING);
        }
        for (int slot : NO_SLOT) {
            d.due("item(" + slot + ", 0)", x.item(slot, 0), BAD);
        }
        x.sheet(0, 0, 0);
        x.lay(0, 2, 0);
        d.due("item(0, 0), no places", x.item(0, 0), INDEX);
    }

    private static void rest() {
        d.promise(41);
        BedsArePlaces x = withRow(0, 1);
        x.bed(0, 0, 0, 0);
        x.lay(0, 3, 17);
        x.lay(1, 3, -17);
        x.lay(2, 3, MIN);
        x.lay(3, 1, 0);
        d.due("rest(0, 5)", x.rest(0, 5), 2);
        d.due("rest(0, -5)", x.rest(0, -5), 2);
        d.due("rest(1, 5)", x.rest(1, 5), -2);
        d.due("rest(1, -5)", x.rest(1, -5), -2);
        d.due("rest(2, -1)", x.rest(2, -1), 0);
        d.due("rest(2, MAX)", x.rest(2, MAX), -1);
        d.due("rest(0, 0)", x.rest(0, 0), NO);
        d.due("rest(3, 5), a bed", x.rest(3, 5), KIND);
        d.due("rest(3, 0), a bed", x.rest(3, 0), KIND);
        d.due("rest(4, 0), nothing", x.rest(4, 0), NOTHING);
        x.lay(3, 2, 0);
        d.due("rest(3, 5), a sheet", x.rest(3, 5), KIND);
        for (int slot : NO_SLOT) {
            d.due("rest(" + slot + ", 0)", x.rest(slot, 0), BAD);
        }
    }
}
