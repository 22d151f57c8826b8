import java.util.ArrayDeque;
import java.util.ArrayList;
import java.util.Arrays;
import java.util.Deque;
import java.util.List;

/**
 * The document once more, written another way (lists and copies, texts by a machine of states, groups of towns by a
 * table), to hold the class against. It is slow and makes as many objects as it likes.
 */
final class Model {
    static final int BAD = -1000000001, NO = -1000000002, FULL = -1000000003, NONE = -1000000005, NOTHING = -1000000011, KIND = -1000000012, INDEX = -1000000013, SIZE = -1000000014;
    static final List<String> KEYS = List.of("hours", "fee", "fine");
    static final List<String> NAMES = List.of("tnw", "sa", "fo");

    record Law(int key, List<String> parts) { }

    /** Beds: kind, at, to, other. Folk: town, home, tired, gone. */
    static final class World {
        final List<int[]> beds = new ArrayList<>();
        final List<int[]> folk = new ArrayList<>();
        final List<Law> laws = new ArrayList<>();
        int carry = 20, slept, awake, lost, carried, night, z = 1;

        World copy() {
            World w = new World();
            beds.forEach(b -> w.beds.add(b.clone()));
            folk.forEach(f -> w.folk.add(f.clone()));
            w.laws.addAll(laws);
            w.carry = carry;
            w.slept = slept;
            w.awake = awake;
            w.lost = lost;
            w.carried = carried;
            w.night = night;
            w.z = z;
            return w;
        }

        int draw(int most) {
            z = z * 1103515245 + 12345;
            return (z >>> 8) % most;
        }

        int law(int key) {
            int last = -1;
            for (int i = 0; i < laws.size(); i++) {
                if (laws.get(i).key == key) {
                    last = i;
                }
            }
            return last;
        }

        int hours(int one) {
            int law = law(0);
            if (law < 0) {
                return 1;
            }
            int[] it = folk.get(one);
            int w = (int) folk.stream().filter(f -> f[3] == 0 && f[0] == it[0]).count();
            return Math.max(0, Math.min(9, eval(laws.get(law).parts, "tnw", new int[] {it[2], night, w})));
        }

        World pass(int n) {
            for (int i = 0; i < n; i++) {
                passOne();
            }
            return this;
        }

        void passOne() {
            List<List<int[]>> lying = new ArrayList<>();
            beds.forEach(b -> lying.add(new ArrayList<>()));
            for (int i = 0; i < folk.size(); i++) {
                int[] one = folk.get(i);
                if (one[3] != 0) {
                    continue;
                }
                List<int[]> in = null;
                if (hours(i) > 0) {
                    for (int b = beds.size() - 1; b >= 0; b--) {
                        if (beds.get(b)[1] == one[0] && lying.get(b).size() < wide(beds.get(b)[0])) {
                            in = lying.get(b);
                        }
                    }
                }
                if (in != null) {
                    in.add(one);
                } else {
                    awake++;
                    one[2] += one[2] < 9 ? 1 : 0;
                }
            }
            for (int b = 0; b < beds.size(); b++) {
                int[] bed = beds.get(b);
                int many = lying.get(b).size();
                for (int[] one : lying.get(b)) {
                    one[0] = takes(bed, many, night);
                    one[2] = 0;
                    slept++;
                    if (bed[0] == 5) {
                        one[3] = 1;
                        lost++;
                    }
                }
                if (bed[0] == 3 && many > 0) {
                    beds.set(b, new int[] {3, bed[2], bed[1], bed[3]});
                }
            }
            if (draw(100) < carry && !beds.isEmpty()) {
                int[] bed = beds.get(draw(beds.size()));
                bed[1] = draw(8);
                carried++;
            }
            night++;
        }

        int home() {
            int set = 0;
            for (int i = 0; i < folk.size(); i++) {
                set += folk.get(i)[0] == folk.get(i)[1] ? 1 << i : 0;
            }
            return set;
        }

        int soonest(int one, int most) {
            World w = copy();
            int n = 0;
            while (w.folk.get(one)[0] != w.folk.get(one)[1]) {
                if (n == most) {
                    return -1;
                }
                w.passOne();
                n++;
            }
            return n;
        }

        /** The table of the shortest ways; 99 where there is none. */
        int[][] ways(int without) {
            int[][] far = new int[8][8];
            for (int i = 0; i < 8; i++) {
                Arrays.fill(far[i], 99);
            }
            for (int b = 0; b < beds.size(); b++) {
                if (b != without) {
                    int[] bed = beds.get(b);
                    far[bed[1]][bed[2]] = 1;
                    if (bed[0] == 4) {
                        far[bed[1]][bed[3]] = 1;
                    }
                }
            }
            for (int i = 0; i < 8; i++) {
                far[i][i] = 0;
            }
            for (int k = 0; k < 8; k++) {
                for (int i = 0; i < 8; i++) {
                    for (int j = 0; j < 8; j++) {
                        far[i][j] = Math.min(far[i][j], far[i][k] + far[k][j]);
                    }
                }
            }
            return far;
        }
    }

    static int wide(int kind) {
        return new int[] {2, 2, 1, 2, 3, 4}[kind];
    }

    static int takes(int[] bed, int many, int night) {
        if (bed[0] == 1) {
            return many == 2 ? bed[2] : bed[1];
        }
        return bed[0] == 4 && (night & 1) == 1 ? bed[3] : bed[2];
    }

    static int worth(int[] bed) {
        int far = bed[1] > bed[2] ? bed[1] - bed[2] : bed[2] - bed[1];
        return new int[] {far, far + 5, 9 - far, (far + 5) * 2, 9 - far + bed[3], 1}[bed[0]];
    }

    static boolean isOf(int[] bed, int kind) {
        String above = List.of("0", "10", "20", "310", "420", "50").get(bed[0]);
        return above.contains(String.valueOf(kind));
    }

    World now = new World();
    World image;
    final List<Integer> tape = new ArrayList<>();
    final List<Integer> waiting = new ArrayList<>();
    /** A sheet: its sort, then its places, null where there is no number. */
    final Integer[][] sheets = new Integer[4][];
    final Object[] slots = new Object[5];

    static boolean in(int v, int from, int to) {
        return v >= from && v <= to;
    }

    boolean isBed(int b) {
        return in(b, 0, now.beds.size() - 1);
    }

    boolean isOne(int i) {
        return in(i, 0, now.folk.size() - 1);
    }

    int bed(int kind, int at, int to, int other) {
        if (!in(kind, 0, 5) || !in(at, 0, 7) || !in(to, 0, 7) || !in(other, 0, 7)) {
            return BAD;
        }
        if (now.beds.size() == 10) {
            return FULL;
        }
        now.beds.add(new int[] {kind, at, to, other});
        return now.beds.size() - 1;
    }

    int told(int bed, int what) {
        if (!isBed(bed) || !in(what, 0, 8)) {
            return BAD;
        }
        int[] b = now.beds.get(bed);
        int leads = 1 << b[2];
        return new int[] {b[0], b[1], b[2], b[3], wide(b[0]), takes(b, 1, now.night), takes(b, 2, now.night), b[0] == 4 ? leads | 1 << b[3] : leads, worth(b)}[what];
    }

    int as(int bed, int kind) {
        if (!isBed(bed) || !in(kind, 0, 5)) {
            return BAD;
        }
        return isOf(now.beds.get(bed), kind) ? now.beds.get(bed)[2] : KIND;
    }

    private static int put(int[] row, int what, int v) {
        int was = row[what];
        row[what] = v;
        return was;
    }

    int turns(int bed, int kind) {
        return isBed(bed) && in(kind, 0, 5) ? put(now.beds.get(bed), 0, kind) : BAD;
    }

    int set(int bed, int what, int v) {
        return isBed(bed) && in(what, 1, 3) && in(v, 0, 7) ? put(now.beds.get(bed), what, v) : BAD;
    }

    int carry(int v) {
        if (!in(v, 0, 100)) {
            return BAD;
        }
        int was = now.carry;
        now.carry = v;
        return was;
    }

    int deal(int n) {
        if (!in(n, 1, 10)) {
            return BAD;
        }
        int came = Math.min(n, 10 - now.beds.size());
        for (int i = 0; i < came; i++) {
            now.beds.add(new int[] {now.draw(6), now.draw(8), now.draw(8), now.draw(8)});
        }
        return came;
    }

    int seed(int v) {
        int was = now.z;
        now.z = v;
        return was;
    }

    int one(int town, int home) {
        if (!in(town, 0, 7) || !in(home, 0, 7)) {
            return BAD;
        }
        if (now.folk.size() == 9) {
            return FULL;
        }
        now.folk.add(new int[] {town, home, 0, 0});
        return now.folk.size() - 1;
    }

    int folk(int one, int what) {
        if (!isOne(one) || !in(what, 0, 4)) {
            return BAD;
        }
        return what == 4 ? now.hours(one) : now.folk.get(one)[what];
    }

    int sends(int one, int what, int v) {
        if (!isOne(one) || !in(what, 0, 3) || !in(v, 0, new int[] {7, 7, 9, 1}[what])) {
            return BAD;
        }
        return put(now.folk.get(one), what, v);
    }

    int those(int column, int v) {
        int set = 0;
        for (int i = 0; i < now.folk.size(); i++) {
            set += now.folk.get(i)[column] == v ? 1 << i : 0;
        }
        return set;
    }

    int who(int town) {
        return in(town, 0, 7) ? those(0, town) : BAD;
    }

    int nights(int n) {
        if (!in(n, 1, 100)) {
            return BAD;
        }
        int before = now.slept;
        now.pass(Math.min(n, 9999 - now.night));
        return now.slept - before;
    }

    int land(int what) {
        return in(what, 0, 6) ? new int[] {now.slept, now.awake, now.lost, now.carried, now.home(), those(3, 1), now.folk.size()}[what] : BAD;
    }

    int reach(int town) {
        if (!in(town, 0, 7)) {
            return BAD;
        }
        int set = 0;
        for (int t = 0; t < 8; t++) {
            set += now.ways(-1)[town][t] < 99 ? 1 << t : 0;
        }
        return set;
    }

    int way(int from, int to) {
        if (!in(from, 0, 7) || !in(to, 0, 7)) {
            return BAD;
        }
        int far = now.ways(-1)[from][to];
        return far < 99 ? far : NONE;
    }

    int lacks() {
        int[][] far = now.ways(-1);
        int[] group = new int[8];
        for (int t = 7; t >= 0; t--) {
            for (int u = 0; u < 8; u++) {
                if (far[t][u] < 99 && far[u][t] < 99) {
                    group[u] = t;
                }
            }
        }
        boolean[] left = new boolean[8];
        boolean[] entered = new boolean[8];
        for (int t = 0; t < 8; t++) {
            for (int u = 0; u < 8; u++) {
                if (far[t][u] < 99 && group[t] != group[u]) {
                    left[group[t]] = true;
                    entered[group[u]] = true;
                }
            }
        }
        int ends = 0;
        int starts = 0;
        int groups = 0;
        for (int t = 0; t < 8; t++) {
            if (group[t] == t) {
                groups++;
                ends += left[t] ? 0 : 1;
                starts += entered[t] ? 0 : 1;
            }
        }
        return groups == 1 ? 0 : Math.max(ends, starts);
    }

    int missed(int what) {
        if (!in(what, 0, 1)) {
            return BAD;
        }
        int[] best = {NONE, NONE};
        for (int b = now.beds.size() - 1; b >= 0; b--) {
            int many = (int) Arrays.stream(now.ways(b)).flatMapToInt(Arrays::stream).filter(far -> far < 99).count();
            if (best[0] == NONE || many <= best[1]) {
                best = new int[] {b, many};
            }
        }
        return best[what];
    }

    int behind(int n, int what) {
        if (!in(n, 0, 100) || !in(what, 0, 2 + now.folk.size())) {
            return BAD;
        }
        World w = now.copy().pass(n);
        return what == 0 ? w.slept : what == 1 ? w.awake : what == 2 ? w.home() : w.folk.get(what - 3)[0];
    }

    int home(int one) {
        if (!isOne(one)) {
            return BAD;
        }
        int n = now.soonest(one, 200);
        return n < 0 ? NONE : n;
    }

    int brought(int one, int what) {
        if (!isOne(one) || !in(what, 0, 2)) {
            return BAD;
        }
        int[] best = {NONE, NONE, NONE};
        for (int b = now.beds.size() - 1; b >= 0; b--) {
            for (int town = 7; town >= 0; town--) {
                World w = now.copy();
                w.beds.get(b)[1] = town;
                int n = w.soonest(one, 30);
                if (n >= 0 && (best[0] == NONE || n <= best[2])) {
                    best = new int[] {b, town, n};
                }
            }
        }
        return best[what];
    }

    private int most(int bed, int n, int what, int column, int values) {
        if (!isBed(bed) || !in(n, 1, 60) || !in(what, 0, 1)) {
            return BAD;
        }
        int[] best = {0, -1};
        for (int v = values - 1; v >= 0; v--) {
            World w = now.copy();
            w.beds.get(bed)[column] = v;
            int many = Integer.bitCount(w.pass(n).home());
            if (many >= best[1]) {
                best = new int[] {v, many};
            }
        }
        return best[what];
    }

    int belongs(int bed, int n, int what) {
        return most(bed, n, what, 2, 8);
    }

    int becomes(int bed, int n, int what) {
        return most(bed, n, what, 0, 6);
    }

    int whose(int sheet, int what) {
        if (!in(sheet, 0, 3) || !in(what, 0, 1)) {
            return BAD;
        }
        if (sheets[sheet] == null) {
            return NOTHING;
        }
        if (now.folk.isEmpty()) {
            return NONE;
        }
        int[] right = new int[now.folk.size()];
        World w = now.copy();
        for (int k = 0; k + 1 < sheets[sheet].length; k++) {
            for (int i = 0; i < right.length; i++) {
                Integer v = sheets[sheet][k + 1];
                right[i] += v != null && v == w.folk.get(i)[0] ? 1 : 0;
            }
            w.passOne();
        }
        int most = Arrays.stream(right).max().getAsInt();
        int first = 0;
        while (right[first] != most) {
            first++;
        }
        return what == 0 ? first : most;
    }

    int fee() {
        int law = now.law(1);
        return law < 0 ? now.slept : eval(now.laws.get(law).parts, "sa", new int[] {now.slept, now.awake});
    }

    int fine(int bed) {
        if (!isBed(bed)) {
            return BAD;
        }
        int law = now.law(2);
        int[] b = now.beds.get(bed);
        return law < 0 ? b[2] : eval(now.laws.get(law).parts, "fo", new int[] {b[1], b[2]});
    }

    int feed(int a, int b, int c) {
        if (tape.size() + 12 > 96) {
            return FULL;
        }
        for (int v : new int[] {a, b, c}) {
            for (int i = 3; i >= 0; i--) {
                tape.add(v >> 8 * i & 255);
            }
        }
        return tape.size();
    }

    int trim(int n) {
        if (!in(n, 0, tape.size())) {
            return BAD;
        }
        tape.subList(n, tape.size()).clear();
        return n;
    }

    int text() {
        List<String> parts = new ArrayList<>();
        int[] key = {-1};
        int fault = read(parts, key);
        tape.clear();
        if (fault >= 0) {
            return -100 - fault;
        }
        if (now.laws.size() == 14) {
            return FULL;
        }
        now.laws.add(new Law(key[0], parts));
        return now.laws.size() - 1;
    }

    private static boolean isWord(String token) {
        char c = token.charAt(0);
        return c >= 'a' && c <= 'z' || c >= '0' && c <= '9';
    }

    private static boolean isNumber(String token) {
        return token.charAt(0) >= '0' && token.charAt(0) <= '9';
    }

    /** Word or sign by word or sign: what may stand next is known from what is open. The place of the fault, or -1. */
    private int read(List<String> parts, int[] key) {
        StringBuilder bytes = new StringBuilder();
        tape.forEach(b -> bytes.append((char) (int) b));
        Deque<int[]> open = new ArrayDeque<>();
        boolean wantsPiece = true;
        boolean compared = false;
        int negated = 0;
        int outerNegated = 0;
        boolean glued = false;
        int at = 0;
        while (at < bytes.length()) {
            if (bytes.charAt(at) == ' ') {
                glued = false;
                at++;
                continue;
            }
            int to = at + 1;
            String kind = bytes.substring(at, at + 1).matches("[a-z]") ? "[a-z]+" : bytes.substring(at, at + 1).matches("[0-9]") ? "[0-9]+" : "";
            while (to < bytes.length() && bytes.substring(at, to + 1).matches(kind)) {
                to++;
            }
            String token = bytes.substring(at, to);
            if (isWord(token) && (glued || isNumber(token) && token.length() > 4)) {
                return at;
            }
            glued = isWord(token);
            if (key[0] < 0) {
                key[0] = KEYS.indexOf(token);
                if (key[0] < 0) {
                    return at;
                }
                at = to;
                continue;
            }
            if (wantsPiece) {
                if (token.equals("!") && outerNegated + negated < 8) {
                    negated++;
                } else if (token.equals("(") && open.size() < 8) {
                    open.push(new int[] {compared ? 1 : 0, outerNegated});
                    outerNegated += negated;
                    negated = 0;
                    compared = false;
                } else if (isNumber(token) || isWord(token) && token.length() == 1 && NAMES.get(key[0]).contains(token)) {
                    wantsPiece = false;
                    negated = 0;
                } else {
                    return at;
                }
            } else if (token.equals(")") && !open.isEmpty()) {
                int[] outer = open.pop();
                compared = outer[0] == 1;
                outerNegated = outer[1];
                negated = 0;
            } else if ("+-*/&|".contains(token) || "<=>".contains(token) && !compared) {
                compared = "<=>".contains(token) || compared && !"&|".contains(token);
                wantsPiece = true;
            } else {
                return at;
            }
            parts.add(token);
            at = to;
        }
        return key[0] < 0 || wantsPiece || !open.isEmpty() ? bytes.length() : -1;
    }

    /** Splits at the loosest sign that is not within others, the last of them. */
    static int eval(List<String> parts, String names, int[] values) {
        for (String signs : List.of("|", "&", "<=>", "+-", "*/")) {
            int depth = 0;
            for (int i = parts.size() - 1; i > 0; i--) {
                String part = parts.get(i);
                depth += part.equals(")") ? 1 : part.equals("(") ? -1 : 0;
                if (depth == 0 && signs.contains(part)) {
                    int a = eval(parts.subList(0, i), names, values);
                    int b = eval(parts.subList(i + 1, parts.size()), names, values);
                    return apply(part.charAt(0), a, b);
                }
            }
        }
        String first = parts.get(0);
        if (first.equals("!")) {
            return eval(parts.subList(1, parts.size()), names, values) == 0 ? 1 : 0;
        }
        if (first.equals("(")) {
            return eval(parts.subList(1, parts.size() - 1), names, values);
        }
        return isNumber(first) ? Integer.parseInt(first) : values[names.indexOf(first)];
    }

    private static int apply(char sign, int a, int b) {
        return switch (sign) {
            case '|' -> (a | b) != 0 ? 1 : 0;
            case '&' -> a == 0 || b == 0 ? 0 : 1;
            case '<' -> a < b ? 1 : 0;
            case '=' -> a == b ? 1 : 0;
            case '>' -> a > b ? 1 : 0;
            case '+' -> a + b;
            case '-' -> a - b;
            case '*' -> a * b;
            default -> b == 0 ? 0 : (int) ((long) a / b);
        };
    }

    int textTold(int text, int what) {
        if (!in(text, 0, now.laws.size() - 1) || !in(what, 0, 1)) {
            return BAD;
        }
        Law law = now.laws.get(text);
        return what == 0 ? law.key : (int) law.parts.stream().filter(Model::isWord).count();
    }

    int why(int key) {
        return !in(key, 0, 2) ? BAD : now.law(key) < 0 ? NONE : now.law(key);
    }

    int sheet(int sheet, int sort, int n) {
        if (!in(sheet, 0, 3) || !in(sort, -1, 1)) {
            return BAD;
        }
        if (sort < 0) {
            sheets[sheet] = null;
            return 0;
        }
        if (n > 24 || n < 0) {
            return n < 0 ? SIZE : BAD;
        }
        sheets[sheet] = new Integer[n + 1];
        Arrays.fill(sheets[sheet], 0);
        sheets[sheet][0] = sort;
        return n;
    }

    int mark(int sheet, int place, int v) {
        if (!in(sheet, 0, 3)) {
            return BAD;
        }
        Integer[] row = sheets[sheet];
        if (row == null) {
            return NOTHING;
        }
        if (!in(place, 0, row.length - 2)) {
            return INDEX;
        }
        boolean shorts = row[0] == 0;
        if (shorts && v == NONE) {
            return KIND;
        }
        if (!shorts && v != NONE && !in(v, -99999, 99999)) {
            return BAD;
        }
        int low = v & 0xFFFF;
        row[place + 1] = shorts ? Integer.valueOf(low > 32767 ? low - 65536 : low) : v == NONE ? null : Integer.valueOf(v);
        return 1;
    }

    int pour(int sheet) {
        if (!in(sheet, 0, 3)) {
            return BAD;
        }
        Integer[] row = sheets[sheet];
        if (row == null) {
            return NOTHING;
        }
        int otherwise = 0;
        for (int b = 0; b < now.beds.size(); b++) {
            if (b + 1 < row.length && row[b + 1] != null) {
                int to = Math.min(7, Math.max(0, row[b + 1]));
                otherwise += put(now.beds.get(b), 2, to) != to ? 1 : 0;
            }
        }
        return otherwise;
    }

    int reads(int sheet) {
        if (!in(sheet, 0, 3)) {
            return BAD;
        }
        Integer[] row = sheets[sheet];
        if (row == null) {
            return NOTHING;
        }
        for (int i = 0; i + 1 < row.length; i++) {
            if (row[i + 1] != null && !(isOne(i) && now.folk.get(i)[0] == row[i + 1])) {
                return i;
            }
        }
        return NONE;
    }

    int copy(int from, int place, int to, int at, int many) {
        if (!in(from, 0, 3) || !in(to, 0, 3)) {
            return BAD;
        }
        Integer[] a = sheets[from];
        Integer[] b = sheets[to];
        if (a == null || b == null) {
            return NOTHING;
        }
        if (!a[0].equals(b[0])) {
            return KIND;
        }
        if (place < 0 || at < 0 || many < 0 || (long) place + many > a.length - 1 || (long) at + many > b.length - 1) {
            return INDEX;
        }
        Integer[] part = Arrays.copyOfRange(a, place + 1, place + 1 + many);
        for (int i = 0; i < many; i++) {
            b[at + 1 + i] = part[i];
        }
        return many;
    }

    /** A slot holds null, a bed (int[]), a sheet (Integer[]) or an Integer. */
    int lay(int slot, int thing, int k) {
        if (!in(slot, 0, 4) || !in(thing, 0, 3) || thing == 1 && !isBed(k) || thing == 2 && !in(k, 0, 3)) {
            return BAD;
        }
        if (thing == 2 && sheets[k] == null) {
            return NOTHING;
        }
        Object held = slots[slot];
        slots[slot] = switch (thing) {
            case 0 -> null;
            case 1 -> now.beds.get(k).clone();
            case 2 -> sheets[k].clone();
            default -> k;
        };
        return held == null ? 0 : held instanceof int[] ? 1 : held instanceof Integer[] ? 2 : 3;
    }

    int ask(int slot, int kind) {
        if (!in(slot, 0, 4) || !in(kind, 0, 5)) {
            return BAD;
        }
        if (slots[slot] == null) {
            return NOTHING;
        }
        return slots[slot] instanceof int[] bed && isOf(bed, kind) ? worth(bed) : KIND;
    }

    int item(int slot, int place) {
        if (!in(slot, 0, 4)) {
            return BAD;
        }
        if (slots[slot] == null) {
            return NOTHING;
        }
        if (!(slots[slot] instanceof Integer[] row)) {
            return KIND;
        }
        if (!in(place, 0, row.length - 2)) {
            return INDEX;
        }
        return row[place + 1] == null ? KIND : row[place + 1];
    }

    int rest(int slot, int n) {
        if (!in(slot, 0, 4)) {
            return BAD;
        }
        if (slots[slot] == null) {
            return NOTHING;
        }
        if (!(slots[slot] instanceof Integer v)) {
            return KIND;
        }
        return n == 0 ? NO : (int) ((long) v - (long) v / n * n);
    }

    int tell(int v) {
        if (waiting.size() == 60) {
            return FULL;
        }
        waiting.add(v);
        return waiting.size();
    }

    int check(int n) {
        List<Integer> told = new ArrayList<>(waiting);
        waiting.clear();
        if (!in(n, 1, 30)) {
            return BAD;
        }
        if (image == null) {
            return NO;
        }
        List<Integer> due = new ArrayList<>();
        World w = image.copy();
        for (int i = 0; i < n && w.night < 9999; i++) {
            w.passOne();
            due.add(w.slept);
            due.add(w.home());
        }
        if (told.equals(due)) {
            return 0;
        }
        int right = 0;
        while (right < told.size() && right < due.size() && told.get(right).equals(due.get(right))) {
            right++;
        }
        return 1 + right;
    }

    int keep() {
        image = now.copy();
        return image.beds.size();
    }

    int back() {
        if (image == null) {
            return NO;
        }
        now = image.copy();
        return now.beds.size();
    }

    int count(int what) {
        return in(what, 0, 7) ? new int[] {now.beds.size(), now.night, now.carry, now.folk.size(), now.laws.size(), waiting.size(), tape.size(), now.z}[what] : BAD;
    }
}
