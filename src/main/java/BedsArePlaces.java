/**
 * Beds are places: whoever lies down in a bed wakes in the town where it belongs.
 * The numbered promises of DOC.md say what each call answers.
 */
public final class BedsArePlaces {
    public static final int BAD = -1000000001, NO = -1000000002, FULL = -1000000003, NONE = -1000000005, NOTHING = -1000000011, KIND = -1000000012, INDEX = -1000000013, SIZE = -1000000014;

    private static final int TOWNS = 8;
    private static final int KINDS = 6;
    private static final int MOST_BEDS = 10;
    private static final int MOST_FOLK = 9;
    private static final int MOST_TIRED = 9;
    private static final int LAST_NIGHT = 9999;
    private static final int MOST_TEXTS = 14;
    private static final int MOST_BYTES = 96;
    private static final int MOST_WAITING = 60;
    private static final int SHEETS = 4;
    private static final int SLOTS = 5;
    private static final int MOST_PLACES = 24;

    private static final int BED = 0;
    private static final int DOUBLE = 1;
    private static final int COT = 2;
    private static final int HAMMOCK = 3;
    private static final int SAWN = 4;
    private static final int PLAIN = 5;

    private static final int HOURS = 0;
    private static final int FEE = 1;
    private static final int FINE = 2;

    private final Laws laws;
    private final Reader reader;
    /** How all stands. */
    private final Land now;
    /** Where nights are only thought: made once, so that no call needs an object of its own. */
    private final Land thought;
    private final Land image;
    private boolean imaged;
    private final Ways ways;
    private final Row[] rows;
    private final Slot[] slots;
    private final int[] waiting;
    private int waits;

    public BedsArePlaces() {
        laws = new Laws();
        reader = new Reader();
        now = new Land(laws);
        thought = new Land(laws);
        image = new Land(laws);
        imaged = false;
        ways = new Ways(now);
        rows = new Row[SHEETS];
        for (int i = 0; i < SHEETS; i++) {
            rows[i] = new Row();
        }
        slots = new Slot[SLOTS];
        for (int i = 0; i < SLOTS; i++) {
            slots[i] = new Slot();
        }
        waiting = new int[MOST_WAITING];
        waits = 0;
    }

    // ---- beds

    public int bed(int kind, int at, int to, int other) {
        if (!isKind(kind) || !isTown(at) || !isTown(to) || !isTown(other)) {
            return BAD;
        }
        if (now.bedCount >= MOST_BEDS) {
            return FULL;
        }
        return now.addBed(kind, at, to, other);
    }

    public int told(int bed, int what) {
        if (!isBed(bed)) {
            return BAD;
        }
        Bed it = now.beds[bed];
        switch (what) {
            case 0: return it.kind;
            case 1: return it.at;
            case 2: return it.to;
            case 3: return it.other;
            case 4: return it.wide();
            case 5: return it.takes(1, now.night);
            case 6: return it.takes(2, now.night);
            case 7: return it.leads();
            case 8: return it.worth();
            default: return BAD;
        }
    }

    public int as(int bed, int kind) {
        if (!isBed(bed) || !isKind(kind)) {
            return BAD;
        }
        Bed it = now.beds[bed];
        return it.isOf(kind) ? it.to : KIND;
    }

    public int turns(int bed, int kind) {
        if (!isBed(bed) || !isKind(kind)) {
            return BAD;
        }
        Bed it = now.beds[bed];
        int was = it.kind;
        it.kind = kind;
        return was;
    }

    public int set(int bed, int what, int v) {
        if (!isBed(bed) || what < 1 || what > 3 || !isTown(v)) {
            return BAD;
        }
        Bed it = now.beds[bed];
        int was;
        if (what == 1) {
            was = it.at;
            it.at = v;
        } else if (what == 2) {
            was = it.to;
            it.to = v;
        } else {
            was = it.other;
            it.other = v;
        }
        return was;
    }

    public int carry(int v) {
        if (v < 0 || v > 100) {
            return BAD;
        }
        int was = now.carry;
        now.carry = v;
        return was;
    }

    public int deal(int n) {
        if (n < 1 || n > MOST_BEDS) {
            return BAD;
        }
        int came = 0;
        while (came < n && now.bedCount < MOST_BEDS) {
            int kind = now.draw() % KINDS;
            int at = now.draw() % TOWNS;
            int to = now.draw() % TOWNS;
            int other = now.draw() % TOWNS;
            now.addBed(kind, at, to, other);
            came++;
        }
        return came;
    }

    public int seed(int v) {
        int was = now.z;
        now.z = v;
        return was;
    }

    // ---- folk

    public int one(int town, int home) {
        if (!isTown(town) || !isTown(home)) {
            return BAD;
        }
        if (now.folkCount >= MOST_FOLK) {
            return FULL;
        }
        return now.addOne(town, home);
    }

    public int folk(int one, int what) {
        if (!isOne(one)) {
            return BAD;
        }
        One it = now.folk[one];
        switch (what) {
            case 0: return it.town;
            case 1: return it.home;
            case 2: return it.tired;
            case 3: return it.gone;
            case 4: return now.hours(it, now.lawOf(HOURS));
            default: return BAD;
        }
    }

    public int sends(int one, int what, int v) {
        if (!isOne(one) || what < 0 || what > 3 || v < 0 || v > mostOfOne(what)) {
            return BAD;
        }
        One it = now.folk[one];
        int was;
        if (what == 0) {
            was = it.town;
            it.town = v;
        } else if (what == 1) {
            was = it.home;
            it.home = v;
        } else if (what == 2) {
            was = it.tired;
            it.tired = v;
        } else {
            was = it.gone;
            it.gone = v;
        }
        return was;
    }

    public int who(int town) {
        return isTown(town) ? now.thoseIn(town) : BAD;
    }

    // ---- nights

    public int nights(int n) {
        if (n < 1 || n > 100) {
            return BAD;
        }
        int before = now.slept;
        int left = Math.min(n, LAST_NIGHT - now.night);
        for (int i = 0; i < left; i++) {
            now.passNight();
        }
        return now.slept - before;
    }

    public int land(int what) {
        switch (what) {
            case 0: return now.slept;
            case 1: return now.awake;
            case 2: return now.lost;
            case 3: return now.carried;
            case 4: return now.thoseAtHome();
            case 5: return now.thoseGone();
            case 6: return now.folkCount;
            default: return BAD;
        }
    }

    // ---- ways

    public int reach(int town) {
        return isTown(town) ? ways.reachOf(town, -1) : BAD;
    }

    public int way(int from, int to) {
        if (!isTown(from) || !isTown(to)) {
            return BAD;
        }
        int steps = ways.steps(from, to);
        return steps < 0 ? NONE : steps;
    }

    public int lacks() {
        return ways.lacking();
    }

    public int missed(int what) {
        if (what < 0 || what > 1) {
            return BAD;
        }
        if (now.bedCount == 0) {
            return NONE;
        }
        int least = 0;
        int leastReached = ways.reachedWithout(0);
        for (int b = 1; b < now.bedCount; b++) {
            int reached = ways.reachedWithout(b);
            if (reached < leastReached) {
                least = b;
                leastReached = reached;
            }
        }
        return what == 0 ? least : leastReached;
    }

    // ---- what will be

    public int behind(int n, int what) {
        if (n < 0 || n > 100 || what < 0 || what >= 3 + now.folkCount) {
            return BAD;
        }
        thought.becomeAs(now);
        thought.passNights(n);
        switch (what) {
            case 0: return thought.slept;
            case 1: return thought.awake;
            case 2: return thought.thoseAtHome();
            default: return thought.folk[what - 3].town;
        }
    }

    public int home(int one) {
        if (!isOne(one)) {
            return BAD;
        }
        thought.becomeAs(now);
        int behind = thought.nightsUntilHome(one, 200);
        return behind < 0 ? NONE : behind;
    }

    public int brought(int one, int what) {
        if (!isOne(one) || what < 0 || what > 2) {
            return BAD;
        }
        int first = -1;
        int firstTown = 0;
        int soonest = 31;
        for (int b = 0; b < now.bedCount; b++) {
            for (int town = 0; town < TOWNS && soonest > 0; town++) {
                thought.becomeAs(now);
                thought.beds[b].at = town;
                int behind = thought.nightsUntilHome(one, soonest - 1);
                // It looks only for sooner ones: of several the first stays.
                if (behind >= 0) {
                    first = b;
                    firstTown = town;
                    soonest = behind;
                }
            }
        }
        if (first < 0) {
            return NONE;
        }
        return what == 0 ? first : what == 1 ? firstTown : soonest;
    }

    public int belongs(int bed, int n, int what) {
        if (!isBed(bed) || n < 1 || n > 60 || what < 0 || what > 1) {
            return BAD;
        }
        int best = 0;
        int most = -1;
        for (int to = 0; to < TOWNS; to++) {
            thought.becomeAs(now);
            thought.beds[bed].to = to;
            thought.passNights(n);
            int atHome = Integer.bitCount(thought.thoseAtHome());
            if (atHome > most) {
                best = to;
                most = atHome;
            }
        }
        return what == 0 ? best : most;
    }

    public int becomes(int bed, int n, int what) {
        if (!isBed(bed) || n < 1 || n > 60 || what < 0 || what > 1) {
            return BAD;
        }
        int best = 0;
        int most = -1;
        for (int kind = 0; kind < KINDS; kind++) {
            thought.becomeAs(now);
            thought.beds[bed].kind = kind;
            thought.passNights(n);
            int atHome = Integer.bitCount(thought.thoseAtHome());
            if (atHome > most) {
                best = kind;
                most = atHome;
            }
        }
        return what == 0 ? best : most;
    }

    public int whose(int sheet, int what) {
        if (!isSheet(sheet) || what < 0 || what > 1) {
            return BAD;
        }
        Row row = rows[sheet];
        if (row.isMissing()) {
            return NOTHING;
        }
        if (now.folkCount == 0) {
            return NONE;
        }
        int best = 0;
        int most = -1;
        for (int one = 0; one < now.folkCount; one++) {
            thought.becomeAs(now);
            int right = thought.nightsTold(one, row);
            if (right > most) {
                best = one;
                most = right;
            }
        }
        return what == 0 ? best : most;
    }

    public int fee() {
        int law = now.lawOf(FEE);
        return law < 0 ? now.slept : laws.value(law, now.slept, now.awake, 0);
    }

    public int fine(int bed) {
        if (!isBed(bed)) {
            return BAD;
        }
        Bed it = now.beds[bed];
        int law = now.lawOf(FINE);
        return law < 0 ? it.to : laws.value(law, it.at, it.to, 0);
    }

    // ---- texts

    public int feed(int a, int b, int c) {
        if (reader.length + 12 > MOST_BYTES) {
            return FULL;
        }
        reader.take(a);
        reader.take(b);
        reader.take(c);
        return reader.length;
    }

    public int trim(int n) {
        if (n < 0 || n > reader.length) {
            return BAD;
        }
        reader.length = n;
        return n;
    }

    public int text() {
        // The draft behind the last text is free to be written on: the image's texts all stand ahead of it.
        Text draft = laws.texts[now.textCount];
        boolean good = reader.readsText(draft);
        int place = reader.start;
        reader.length = 0;
        if (!good) {
            return -100 - place;
        }
        if (now.textCount >= MOST_TEXTS) {
            return FULL;
        }
        now.textCount++;
        return now.textCount - 1;
    }

    public int textTold(int text, int what) {
        if (text < 0 || text >= now.textCount || what < 0 || what > 1) {
            return BAD;
        }
        Text it = laws.texts[text];
        return what == 0 ? it.key : it.leaves;
    }

    public int why(int key) {
        if (key < HOURS || key > FINE) {
            return BAD;
        }
        int law = now.lawOf(key);
        return law < 0 ? NONE : law;
    }

    // ---- sheets, slots

    public int sheet(int sheet, int sort, int n) {
        if (!isSheet(sheet) || sort < Row.MISSING || sort > Row.FLOATS) {
            return BAD;
        }
        if (sort == Row.MISSING) {
            rows[sheet].clear(Row.MISSING, 0);
            return 0;
        }
        if (n > MOST_PLACES) {
            return BAD;
        }
        if (n < 0) {
            return SIZE;
        }
        rows[sheet].clear(sort, n);
        return n;
    }

    public int mark(int sheet, int place, int v) {
        if (!isSheet(sheet)) {
            return BAD;
        }
        Row row = rows[sheet];
        if (row.isMissing()) {
            return NOTHING;
        }
        if (!row.has(place)) {
            return INDEX;
        }
        if (row.sort == Row.SHORTS) {
            if (v == NONE) {
                return KIND;
            }
            row.places[place] = (short) v;
            return 1;
        }
        if (v != NONE && (v < -99999 || v > 99999)) {
            return BAD;
        }
        row.places[place] = v == NONE ? Row.NO_NUMBER : v;
        return 1;
    }

    public int pour(int sheet) {
        if (!isSheet(sheet)) {
            return BAD;
        }
        Row row = rows[sheet];
        if (row.isMissing()) {
            return NOTHING;
        }
        int otherwise = 0;
        for (int b = 0; b < now.bedCount && b < row.length; b++) {
            if (row.isNumber(b)) {
                int to = within(row.places[b], TOWNS - 1);
                if (to != now.beds[b].to) {
                    otherwise++;
                }
                now.beds[b].to = to;
            }
        }
        return otherwise;
    }

    public int reads(int sheet) {
        if (!isSheet(sheet)) {
            return BAD;
        }
        Row row = rows[sheet];
        if (row.isMissing()) {
            return NOTHING;
        }
        for (int i = 0; i < row.length; i++) {
            if (row.isNumber(i) && (!isOne(i) || row.places[i] != now.folk[i].town)) {
                return i;
            }
        }
        return NONE;
    }

    public int copy(int from, int place, int to, int at, int many) {
        if (!isSheet(from) || !isSheet(to)) {
            return BAD;
        }
        Row source = rows[from];
        Row target = rows[to];
        if (source.isMissing() || target.isMissing()) {
            return NOTHING;
        }
        if (source.sort != target.sort) {
            return KIND;
        }
        if (!source.hasAll(place, many) || !target.hasAll(at, many)) {
            return INDEX;
        }
        System.arraycopy(source.places, place, target.places, at, many);
        return many;
    }

    public int lay(int slot, int thing, int k) {
        if (!isSlot(slot) || thing < Slot.EMPTY || thing > Slot.A_NUMBER) {
            return BAD;
        }
        if (thing == Slot.A_BED && !isBed(k) || thing == Slot.A_SHEET && !isSheet(k)) {
            return BAD;
        }
        if (thing == Slot.A_SHEET && rows[k].isMissing()) {
            return NOTHING;
        }
        Slot it = slots[slot];
        int held = it.thing;
        it.thing = thing;
        if (thing == Slot.A_BED) {
            it.bed.becomeAs(now.beds[k]);
        } else if (thing == Slot.A_SHEET) {
            it.row.becomeAs(rows[k]);
        } else if (thing == Slot.A_NUMBER) {
            it.number = k;
        }
        return held;
    }

    public int ask(int slot, int kind) {
        if (!isSlot(slot) || !isKind(kind)) {
            return BAD;
        }
        Slot it = slots[slot];
        if (it.thing == Slot.EMPTY) {
            return NOTHING;
        }
        if (it.thing != Slot.A_BED || !it.bed.isOf(kind)) {
            return KIND;
        }
        return it.bed.worth();
    }

    public int item(int slot, int place) {
        if (!isSlot(slot)) {
            return BAD;
        }
        Slot it = slots[slot];
        if (it.thing == Slot.EMPTY) {
            return NOTHING;
        }
        if (it.thing != Slot.A_SHEET) {
            return KIND;
        }
        if (!it.row.has(place)) {
            return INDEX;
        }
        return it.row.isNumber(place) ? it.row.places[place] : KIND;
    }

    public int rest(int slot, int n) {
        if (!isSlot(slot)) {
            return BAD;
        }
        Slot it = slots[slot];
        if (it.thing == Slot.EMPTY) {
            return NOTHING;
        }
        if (it.thing != Slot.A_NUMBER) {
            return KIND;
        }
        return n == 0 ? NO : it.number % n;
    }

    // ---- rows, images

    public int tell(int v) {
        if (waits >= MOST_WAITING) {
            return FULL;
        }
        waiting[waits] = v;
        waits++;
        return waits;
    }

    public int check(int n) {
        int many = waits;
        waits = 0;
        if (n < 1 || n > 30) {
            return BAD;
        }
        if (!imaged) {
            return NO;
        }
        int due = 2 * Math.min(n, LAST_NIGHT - image.night);
        int right = rightAhead(many, due);
        return right == many && right == due ? 0 : 1 + right;
    }

    public int keep() {
        image.becomeAs(now);
        imaged = true;
        return image.bedCount;
    }

    public int back() {
        if (!imaged) {
            return NO;
        }
        now.becomeAs(image);
        return now.bedCount;
    }

    public int count(int what) {
        switch (what) {
            case 0: return now.bedCount;
            case 1: return now.night;
            case 2: return now.carry;
            case 3: return now.folkCount;
            case 4: return now.textCount;
            case 5: return waits;
            case 6: return reader.length;
            case 7: return now.z;
            default: return BAD;
        }
    }

    // ---- what the calls share

    private boolean isBed(int bed) {
        return bed >= 0 && bed < now.bedCount;
    }

    private boolean isOne(int one) {
        return one >= 0 && one < now.folkCount;
    }

    private static boolean isTown(int town) {
        return town >= 0 && town < TOWNS;
    }

    private static boolean isKind(int kind) {
        return kind >= 0 && kind < KINDS;
    }

    private static boolean isSheet(int sheet) {
        return sheet >= 0 && sheet < SHEETS;
    }

    private static boolean isSlot(int slot) {
        return slot >= 0 && slot < SLOTS;
    }

    private static int mostOfOne(int what) {
        if (what < 2) {
            return TOWNS - 1;
        }
        return what == 2 ? MOST_TIRED : 1;
    }

    private static int within(int v, int most) {
        return Math.max(0, Math.min(most, v));
    }

    /** How many of the numbers that waited are right before the first that is not, or is missing, or one too many. */
    private int rightAhead(int many, int due) {
        thought.becomeAs(image);
        for (int i = 0; i < many && i < due; i++) {
            boolean first = i % 2 == 0;
            if (first) {
                thought.passNight();
            }
            if (waiting[i] != (first ? thought.slept : thought.thoseAtHome())) {
                return i;
            }
        }
        return Math.min(many, due);
    }

    /** A BED. What a KIND does not name, it does as the KIND above it. */
    private static final class Bed {
        int kind;
        int at;
        int to;
        int other;
        /** How many lie in it: of use within a night alone. */
        int lying;

        void becomeAs(Bed bed) {
            kind = bed.kind;
            at = bed.at;
            to = bed.to;
            other = bed.other;
        }

        boolean isOf(int of) {
            switch (kind) {
                case HAMMOCK: return of == HAMMOCK || of == DOUBLE || of == BED;
                case SAWN: return of == SAWN || of == COT || of == BED;
                default: return of == kind || of == BED;
            }
        }

        int wide() {
            switch (kind) {
                case COT: return 1;
                case SAWN: return 1 + 2;
                case PLAIN: return 4;
                default: return 2;
            }
        }

        int takes(int many, int night) {
            if (kind == DOUBLE && many != 2) {
                return at;
            }
            if (kind == SAWN && night % 2 != 0) {
                return other;
            }
            return to;
        }

        int leads() {
            return kind == SAWN ? 1 << to | 1 << other : 1 << to;
        }

        int worth() {
            int far = Math.abs(at - to);
            switch (kind) {
                case DOUBLE: return far + 5;
                case HAMMOCK: return 2 * (far + 5);
                case COT: return 9 - far;
                case SAWN: return 9 - far + other;
                case PLAIN: return 1;
                default: return far;
            }
        }

        void swings() {
            int stood = at;
            at = to;
            to = stood;
        }
    }

    /** One of the FOLK. */
    private static final class One {
        int town;
        int home;
        int tired;
        int gone;
        /** In which BED it lies, or -1: of use within a night alone. */
        int liesIn;

        void becomeAs(One one) {
            town = one.town;
            home = one.home;
            tired = one.tired;
            gone = one.gone;
        }
    }

    /** All that an image keeps, and how a night passes in it. */
    private static final class Land {
        final Laws laws;
        final Bed[] beds;
        int bedCount;
        final One[] folk;
        int folkCount;
        int carry;
        int slept;
        int awake;
        int lost;
        int carried;
        int night;
        int z;
        int textCount;

        Land(Laws laws) {
            this.laws = laws;
            beds = new Bed[MOST_BEDS];
            for (int i = 0; i < MOST_BEDS; i++) {
                beds[i] = new Bed();
            }
            folk = new One[MOST_FOLK];
            for (int i = 0; i < MOST_FOLK; i++) {
                folk[i] = new One();
            }
            carry = 20;
            z = 1;
        }

        void becomeAs(Land land) {
            bedCount = land.bedCount;
            for (int b = 0; b < bedCount; b++) {
                beds[b].becomeAs(land.beds[b]);
            }
            folkCount = land.folkCount;
            for (int i = 0; i < folkCount; i++) {
                folk[i].becomeAs(land.folk[i]);
            }
            carry = land.carry;
            slept = land.slept;
            awake = land.awake;
            lost = land.lost;
            carried = land.carried;
            night = land.night;
            z = land.z;
            textCount = land.textCount;
        }

        int addBed(int kind, int at, int to, int other) {
            Bed it = beds[bedCount];
            it.kind = kind;
            it.at = at;
            it.to = to;
            it.other = other;
            bedCount++;
            return bedCount - 1;
        }

        int addOne(int town, int home) {
            One it = folk[folkCount];
            it.town = town;
            it.home = home;
            it.tired = 0;
            it.gone = 0;
            folkCount++;
            return folkCount - 1;
        }

        int draw() {
            z = z * 1103515245 + 12345;
            return z >>> 8;
        }

        int lawOf(int key) {
            return laws.counting(key, textCount);
        }

        int hours(One one, int law) {
            if (law < 0) {
                return 1;
            }
            return within(laws.value(law, one.tired, night, presentIn(one.town)), 9);
        }

        int presentIn(int town) {
            int many = 0;
            for (int i = 0; i < folkCount; i++) {
                if (folk[i].town == town && folk[i].gone == 0) {
                    many++;
                }
            }
            return many;
        }

        int thoseIn(int town) {
            int those = 0;
            for (int i = 0; i < folkCount; i++) {
                if (folk[i].town == town) {
                    those |= 1 << i;
                }
            }
            return those;
        }

        boolean isAtHome(int one) {
            return folk[one].town == folk[one].home;
        }

        int thoseAtHome() {
            int those = 0;
            for (int i = 0; i < folkCount; i++) {
                if (isAtHome(i)) {
                    those |= 1 << i;
                }
            }
            return those;
        }

        int thoseGone() {
            int those = 0;
            for (int i = 0; i < folkCount; i++) {
                if (folk[i].gone != 0) {
                    those |= 1 << i;
                }
            }
            return those;
        }

        void passNights(int n) {
            for (int i = 0; i < n; i++) {
                passNight();
            }
        }

        void passNight() {
            lieDown();
            wake();
            carryOne();
            night++;
        }

        void lieDown() {
            for (int b = 0; b < bedCount; b++) {
                beds[b].lying = 0;
            }
            int law = lawOf(HOURS);
            for (int i = 0; i < folkCount; i++) {
                One one = folk[i];
                one.liesIn = -1;
                if (one.gone == 0) {
                    one.liesIn = hours(one, law) > 0 ? freeBedAt(one.town) : -1;
                    if (one.liesIn < 0) {
                        awake++;
                        one.tired = Math.min(MOST_TIRED, one.tired + 1);
                    } else {
                        beds[one.liesIn].lying++;
                    }
                }
            }
        }

        int freeBedAt(int town) {
            for (int b = 0; b < bedCount; b++) {
                if (beds[b].at == town && beds[b].lying < beds[b].wide()) {
                    return b;
                }
            }
            return -1;
        }

        void wake() {
            for (int b = 0; b < bedCount; b++) {
                Bed bed = beds[b];
                if (bed.lying > 0) {
                    wakeThoseIn(b, bed.takes(bed.lying, night), bed.kind == PLAIN);
                    if (bed.kind == HAMMOCK) {
                        bed.swings();
                    }
                }
            }
        }

        void wakeThoseIn(int bed, int town, boolean forGood) {
            for (int i = 0; i < folkCount; i++) {
                One one = folk[i];
                if (one.liesIn == bed) {
                    one.town = town;
                    one.tired = 0;
                    slept++;
                    if (forGood) {
                        one.gone = 1;
                        lost++;
                    }
                }
            }
        }

        void carryOne() {
            boolean carries = draw() % 100 < carry;
            if (carries && bedCount > 0) {
                int bed = draw() % bedCount;
                beds[bed].at = draw() % TOWNS;
                carried++;
            }
        }

        /** Behind how many nights, most at most, one is at home first; -1 if not by then. */
        int nightsUntilHome(int one, int most) {
            for (int k = 0; k <= most; k++) {
                if (k > 0) {
                    passNight();
                }
                if (isAtHome(one)) {
                    return k;
                }
            }
            return -1;
        }

        /** At how many places that are numbers a row tells the town of one, behind no night, one, two .. */
        int nightsTold(int one, Row row) {
            int right = 0;
            for (int k = 0; k < row.length; k++) {
                if (k > 0) {
                    passNight();
                }
                if (row.isNumber(k) && row.places[k] == folk[one].town) {
                    right++;
                }
            }
            return right;
        }
    }

    /** Where one can come to by the beds as they stand. */
    private static final class Ways {
        final Land land;
        /** The reach of each town: kept here so that no call needs a row of its own. */
        final int[] reaches;

        Ways(Land land) {
            this.land = land;
            reaches = new int[TOWNS];
        }

        /** The towns, and those to which one bed more leads from them. */
        int oneFurther(int towns, int without) {
            int further = towns;
            for (int b = 0; b < land.bedCount; b++) {
                if (b != without && (towns >> land.beds[b].at & 1) != 0) {
                    further |= land.beds[b].leads();
                }
            }
            return further;
        }

        int reachOf(int town, int without) {
            int towns = 1 << town;
            for (int i = 1; i < TOWNS; i++) {
                towns = oneFurther(towns, without);
            }
            return towns;
        }

        int steps(int from, int to) {
            int towns = 1 << from;
            for (int steps = 0; steps < TOWNS; steps++) {
                if ((towns >> to & 1) != 0) {
                    return steps;
                }
                towns = oneFurther(towns, -1);
            }
            return -1;
        }

        int reachedWithout(int bed) {
            int many = 0;
            for (int town = 0; town < TOWNS; town++) {
                many += Integer.bitCount(reachOf(town, bed));
            }
            return many;
        }

        int comingTo(int town) {
            int towns = 0;
            for (int from = 0; from < TOWNS; from++) {
                if ((reaches[from] >> town & 1) != 0) {
                    towns |= 1 << from;
                }
            }
            return towns;
        }

        /**
         * Towns that reach one another are one group. Each group that nothing leaves needs a bed out of it, each
         * that nothing enters one into it, and one bed does for one of each: the greater number is the answer.
         */
        int lacking() {
            for (int town = 0; town < TOWNS; town++) {
                reaches[town] = reachOf(town, -1);
            }
            int groups = 0;
            int leftByNone = 0;
            int enteredByNone = 0;
            for (int town = 0; town < TOWNS; town++) {
                int coming = comingTo(town);
                int group = coming & reaches[town];
                boolean leastOfIt = (group & (1 << town) - 1) == 0;
                if (leastOfIt) {
                    groups++;
                    leftByNone += group == reaches[town] ? 1 : 0;
                    enteredByNone += group == coming ? 1 : 0;
                }
            }
            return groups == 1 ? 0 : Math.max(leftByNone, enteredByNone);
        }
    }

    /** A SHEET: a row of shorts or of floats (whole numbers, for which an int does), or none. */
    private static final class Row {
        static final int MISSING = -1;
        static final int SHORTS = 0;
        static final int FLOATS = 1;
        /** Neither a short nor a float of a sheet can be this. */
        static final int NO_NUMBER = NONE;

        int sort;
        int length;
        final int[] places;

        Row() {
            sort = MISSING;
            places = new int[MOST_PLACES];
        }

        boolean isMissing() {
            return sort == MISSING;
        }

        boolean has(int place) {
            return place >= 0 && place < length;
        }

        boolean hasAll(int place, int many) {
            return place >= 0 && many >= 0 && place <= length - many;
        }

        boolean isNumber(int place) {
            return has(place) && places[place] != NO_NUMBER;
        }

        void clear(int newSort, int n) {
            sort = newSort;
            length = n;
            for (int i = 0; i < MOST_PLACES; i++) {
                places[i] = 0;
            }
        }

        void becomeAs(Row row) {
            sort = row.sort;
            length = row.length;
            System.arraycopy(row.places, 0, places, 0, MOST_PLACES);
        }
    }

    /** A SLOT, with room for each thing that it may hold. */
    private static final class Slot {
        static final int EMPTY = 0;
        static final int A_BED = 1;
        static final int A_SHEET = 2;
        static final int A_NUMBER = 3;

        int thing;
        final Bed bed;
        final Row row;
        int number;

        Slot() {
            thing = EMPTY;
            bed = new Bed();
            row = new Row();
        }
    }

    /** A TEXT: its KEY, and its parts with each operator behind what it joins. */
    private static final class Text {
        int key;
        /** Numbers as they are, NAMES as -1 .. -3, operators as their signs below 0. */
        final int[] parts;
        int length;
        int leaves;

        Text() {
            parts = new int[MOST_BYTES];
        }

        void begin(int ofKey) {
            key = ofKey;
            length = 0;
            leaves = 0;
        }

        void addLeaf(int part) {
            leaves++;
            add(part);
        }

        void addSign(char sign) {
            add(-sign);
        }

        private void add(int part) {
            if (length < parts.length) {
                parts[length] = part;
                length++;
            }
        }
    }

    /** All TEXTS, and what they give. */
    private static final class Laws {
        /** One more than there may be: a text is read even when there is no room for it, for its fault. */
        final Text[] texts;
        final int[] stack;

        Laws() {
            texts = new Text[MOST_TEXTS + 1];
            for (int i = 0; i <= MOST_TEXTS; i++) {
                texts[i] = new Text();
            }
            stack = new int[MOST_BYTES];
        }

        /** Of the first so many texts the last one of a key, or -1. */
        int counting(int key, int many) {
            for (int i = many - 1; i >= 0; i--) {
                if (texts[i].key == key) {
                    return i;
                }
            }
            return -1;
        }

        int value(int law, int first, int second, int third) {
            Text text = texts[law];
            int top = 0;
            for (int i = 0; i < text.length && top < stack.length; i++) {
                int part = text.parts[i];
                if (part >= -3) {
                    stack[top] = part >= 0 ? part : part == -1 ? first : part == -2 ? second : third;
                    top++;
                } else if (part == -'!' && top >= 1) {
                    stack[top - 1] = stack[top - 1] == 0 ? 1 : 0;
                } else if (top >= 2) {
                    top--;
                    stack[top - 1] = joined(-part, stack[top - 1], stack[top]);
                }
            }
            return stack[0];
        }

        private static int joined(int sign, int a, int b) {
            switch (sign) {
                case '+': return a + b;
                case '-': return a - b;
                case '*': return a * b;
                case '/': return b == 0 ? 0 : a / b;
                case '<': return a < b ? 1 : 0;
                case '=': return a == b ? 1 : 0;
                case '>': return a > b ? 1 : 0;
                case '&': return a != 0 && b != 0 ? 1 : 0;
                default: return a != 0 || b != 0 ? 1 : 0;
            }
        }
    }

    /** THE TAPE, and how a TEXT is read from it. */
    private static final class Reader {
        private static final int BLANK = 32;
        private static final int MOST_OPEN = 8;
        private static final int MOST_DIGITS = 4;

        private static final int END = 0;
        private static final int SIGN = 1;
        private static final int LETTERS = 2;
        private static final int NUMBER = 3;
        /** A word with which no text goes on, wherever it stands. */
        private static final int WRONG = 4;

        /** The level of tests, of which none joins two, and the one below all that joins. */
        private static final int TESTS = 2;
        private static final int PIECES = 5;

        final int[] bytes;
        int length;
        /** The word or sign that is read next: from start to ahead of end. Once a text is not one, start is its fault. */
        int start;
        int end;
        int sort;
        int number;
        private Text draft;

        Reader() {
            bytes = new int[MOST_BYTES];
            draft = new Text();
        }

        void take(int four) {
            for (int shift = 24; shift >= 0 && length < MOST_BYTES; shift -= 8) {
                bytes[length] = four >>> shift & 255;
                length++;
            }
        }

        boolean readsText(Text into) {
            draft = into;
            end = 0;
            sort = END;
            goOn();
            int key = keyHere();
            if (key < 0) {
                return false;
            }
            draft.begin(key);
            goOn();
            return readsLevel(0, 0, 0) && sort == END;
        }

        private void goOn() {
            int before = end;
            boolean behindWord = sort == LETTERS || sort == NUMBER;
            start = before;
            while (start < length && bytes[start] == BLANK) {
                start++;
            }
            end = start;
            if (start >= length) {
                sort = END;
            } else if (isDigit(start)) {
                readNumber();
            } else if (isLetter(start)) {
                readLetters();
            } else {
                sort = SIGN;
                end = start + 1;
            }
            if (behindWord && start == before && (sort == LETTERS || sort == NUMBER)) {
                sort = WRONG;
            }
        }

        private void readNumber() {
            number = 0;
            while (end < length && isDigit(end)) {
                number = number * 10 + bytes[end] - '0';
                end++;
            }
            sort = end - start > MOST_DIGITS ? WRONG : NUMBER;
        }

        private void readLetters() {
            while (end < length && isLetter(end)) {
                end++;
            }
            sort = LETTERS;
        }

        private boolean isDigit(int place) {
            return bytes[place] >= '0' && bytes[place] <= '9';
        }

        private boolean isLetter(int place) {
            return bytes[place] >= 'a' && bytes[place] <= 'z';
        }

        private boolean isSign(char sign) {
            return sort == SIGN && bytes[start] == sign;
        }

        private boolean isWord(String word) {
            if (sort != LETTERS || end - start != word.length()) {
                return false;
            }
            for (int i = 0; i < word.length(); i++) {
                if (bytes[start + i] != word.charAt(i)) {
                    return false;
                }
            }
            return true;
        }

        private int keyHere() {
            if (isWord("hours")) {
                return HOURS;
            }
            if (isWord("fee")) {
                return FEE;
            }
            return isWord("fine") ? FINE : -1;
        }

        private static String namesOf(int key) {
            if (key == HOURS) {
                return "tnw";
            }
            return key == FEE ? "sa" : "fo";
        }

        /** Which of its key's names stands here, or -1. */
        private int nameHere() {
            if (sort != LETTERS || end - start != 1) {
                return -1;
            }
            return namesOf(draft.key).indexOf((char) bytes[start]);
        }

        /** The signs that join what is one level tighter, the loosest level first. */
        private static String signsOf(int level) {
            switch (level) {
                case 0: return "|";
                case 1: return "&";
                case TESTS: return "<=>";
                case 3: return "+-";
                default: return "*/";
            }
        }

        private boolean isJoined(int level) {
            return sort == SIGN && signsOf(level).indexOf((char) bytes[start]) >= 0;
        }

        /** Opened and negated are how many ( and ! are open around what is read: they bound the depth. */
        private boolean readsLevel(int level, int opened, int negated) {
            if (level >= PIECES) {
                return readsPiece(opened, negated);
            }
            if (!readsLevel(level + 1, opened, negated)) {
                return false;
            }
            int most = level == TESTS ? 1 : MOST_BYTES;
            for (int i = 0; i < most && isJoined(level); i++) {
                char sign = (char) bytes[start];
                goOn();
                if (!readsLevel(level + 1, opened, negated)) {
                    return false;
                }
                draft.addSign(sign);
            }
            return true;
        }

        private boolean readsPiece(int opened, int negated) {
            if (sort == NUMBER) {
                draft.addLeaf(number);
                goOn();
                return true;
            }
            if (sort == LETTERS) {
                return readsName();
            }
            if (isSign('!')) {
                return negated < MOST_OPEN && readsNegated(opened, negated + 1);
            }
            return isSign('(') && opened < MOST_OPEN && readsBracket(opened + 1, negated);
        }

        private boolean readsName() {
            int name = nameHere();
            if (name < 0) {
                return false;
            }
            draft.addLeaf(-1 - name);
            goOn();
            return true;
        }

        private boolean readsNegated(int opened, int negated) {
            goOn();
            if (!readsPiece(opened, negated)) {
                return false;
            }
            draft.addSign('!');
            return true;
        }

        private boolean readsBracket(int opened, int negated) {
            goOn();
            if (!readsLevel(0, opened, negated) || !isSign(')')) {
                return false;
            }
            goOn();
            return true;
        }
    }
}
