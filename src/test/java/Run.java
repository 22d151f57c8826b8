import java.lang.reflect.InvocationTargetException;
import java.lang.reflect.Method;
import java.util.HashMap;
import java.util.LinkedHashSet;
import java.util.Map;
import java.util.Set;

/** An object and the calls that are made of it, written as they are told: "bed(0, 1, 2, 3)". No more than 512 are made. */
final class Run {
    private static final int MOST_CALLS = 512;
    private static final Map<String, Method> METHODS = new HashMap<>();
    private static final Map<String, Integer> NAMES = new HashMap<>();
    private static final Map<Integer, String> REFUSALS = Map.of(BedsArePlaces.BAD, "BAD", BedsArePlaces.NO, "NO", BedsArePlaces.FULL, "FULL", BedsArePlaces.NONE, "NONE", BedsArePlaces.NOTHING, "NOTHING", BedsArePlaces.KIND, "KIND", BedsArePlaces.INDEX, "INDEX", BedsArePlaces.SIZE, "SIZE");
    /** Each refusal that a test asked for, as "bed FULL". */
    static final Set<String> REFUSED = new LinkedHashSet<>();

    static {
        for (Method method : BedsArePlaces.class.getDeclaredMethods()) {
            METHODS.put(method.getName(), method);
        }
        NAMES.put("MIN", Integer.MIN_VALUE);
        NAMES.put("MAX", Integer.MAX_VALUE);
        REFUSALS.forEach((value, name) -> NAMES.put(name, value));
    }

    private final Due d;
    private final BedsArePlaces x = new BedsArePlaces();
    private int calls;

    Run(Due d) {
        this.d = d;
    }

    int call(String call) {
        calls++;
        if (calls == MOST_CALLS + 1) {
            d.holds("one object is called " + MOST_CALLS + " times at most", false);
        }
        int open = call.indexOf('(');
        String inside = call.substring(open + 1, call.length() - 1).trim();
        String[] words = inside.isEmpty() ? new String[0] : inside.split(",");
        Object[] values = new Object[words.length];
        for (int i = 0; i < words.length; i++) {
            String word = words[i].trim();
            values[i] = NAMES.containsKey(word) ? NAMES.get(word) : Integer.valueOf(Long.decode(word).intValue());
        }
        return answer(METHODS.get(call.substring(0, open)), values);
    }

    private int answer(Method method, Object[] values) {
        try {
            return (Integer) method.invoke(x, values);
        } catch (InvocationTargetException thrown) {
            if (thrown.getCause() instanceof RuntimeException its) {
                throw its;
            }
            throw (Error) thrown.getCause();
        } catch (IllegalAccessException hidden) {
            throw new IllegalStateException(hidden);
        }
    }

    Run due(String call, int want) {
        int got = call(call);
        d.due(call, got, want);
        if (REFUSALS.containsKey(want)) {
            REFUSED.add(call.substring(0, call.indexOf('(')) + " " + REFUSALS.get(want));
        }
        return this;
    }

    /** Calls on the way to what is tested, told one behind the other. None of them is refused. */
    Run does(String calls) {
        for (String call : calls.split(";")) {
            int got = call(call.trim());
            d.holds(call.trim() + " on the way is not refused by " + REFUSALS.get(got), !REFUSALS.containsKey(got));
        }
        return this;
    }

    /** The tape, that holds none, becomes these bytes. */
    Run tape(String bytes) {
        int[] fours = Due.fours(bytes);
        for (int i = 0; i < fours.length; i += 3) {
            does("feed(" + fours[i] + ", " + fours[i + 1] + ", " + fours[i + 2] + ")");
        }
        return does("trim(" + bytes.length() + ")");
    }

    Run text(String bytes, int want) {
        tape(bytes);
        d.due("text() of '" + bytes + "'", call("text()"), want);
        return this;
    }

    /** All that it tells, then all that it tells behind what it keeps: two that stand alike tell the same. */
    String all() {
        StringBuilder all = new StringBuilder();
        land(all);
        slots(all);
        sheets(all);
        tell(all, "text()");
        texts(all);
        tell(all, "check(30)");
        tell(all, "back()");
        land(all);
        texts(all);
        return all.toString();
    }

    private void tell(StringBuilder all, String call) {
        all.append(call).append(' ').append(call(call)).append('\n');
    }

    private void land(StringBuilder all) {
        for (int what = 0; what < 8; what++) {
            tell(all, "count(" + what + ")");
        }
        for (int what = 0; what < 4; what++) {
            tell(all, "land(" + what + ")");
        }
        int beds = call("count(0)");
        for (int b = 0; b < beds; b++) {
            for (int what = 0; what < 4; what++) {
                tell(all, "told(" + b + ", " + what + ")");
            }
        }
        int folk = call("count(3)");
        for (int i = 0; i < folk; i++) {
            for (int what = 0; what < 4; what++) {
                tell(all, "folk(" + i + ", " + what + ")");
            }
        }
    }

    private void slots(StringBuilder all) {
        for (int slot = 0; slot < 5; slot++) {
            tell(all, "ask(" + slot + ", 0)");
            tell(all, "rest(" + slot + ", 1000003)");
            places(all, slot);
        }
    }

    /** A place far off is refused by INDEX where there is a sheet, and by something else where there is none. */
    private void places(StringBuilder all, int slot) {
        int last = call("item(" + slot + ", 99)") == BedsArePlaces.INDEX ? 0 : BedsArePlaces.INDEX;
        for (int place = 0; place <= 24 && last != BedsArePlaces.INDEX; place++) {
            last = call("item(" + slot + ", " + place + ")");
            all.append("place ").append(place).append(' ').append(last).append('\n');
        }
    }

    /** That a row takes what is no number tells its sort; its places are told ahead of that. */
    private void sheets(StringBuilder all) {
        for (int sheet = 0; sheet < 4; sheet++) {
            tell(all, "lay(4, 2, " + sheet + ")");
            places(all, 4);
            tell(all, "mark(" + sheet + ", 0, NONE)");
        }
    }

    private void texts(StringBuilder all) {
        for (int text = 0; text < call("count(4)"); text++) {
            tell(all, "textTold(" + text + ", 1)");
        }
        for (int key = 0; key < 3; key++) {
            tell(all, "why(" + key + ")");
        }
        tell(all, "fee()");
        tell(all, "fine(0)");
        tell(all, "folk(0, 4)");
    }
}
