import java.util.function.Supplier;

/** Tests of their own for the sentences of the document that name a boundary case, with what they share. */
abstract class Edges {
    static final int BAD = -1000000001, NO = -1000000002, FULL = -1000000003, NONE = -1000000005, NOTHING = -1000000011, KIND = -1000000012, INDEX = -1000000013, SIZE = -1000000014;
    static final int MIN = Integer.MIN_VALUE, MAX = Integer.MAX_VALUE;
    private static final int[] ALL_REFUSALS = {BAD, NO, FULL, NONE, NOTHING, KIND, INDEX, SIZE};

    final Due d;

    Edges(Due d) {
        this.d = d;
    }

    abstract void all();

    void at(String part, String words, Runnable its) {
        d.sentence(part, words, its);
    }

    Run run() {
        return new Run(d);
    }

    Run run(String calls) {
        return run().does(calls);
    }

    /** Nobody carries beds: what comes can be told by hand. */
    Run still(String calls) {
        return run("carry(0)").does(calls);
    }

    /** The night is so many, nothing else has come: then these calls. */
    Run atNight(int night, String calls) {
        Run x = still("seed(1)");
        for (int left = night; left > 0; left -= 100) {
            x.does("nights(" + Math.min(100, left) + ")");
        }
        return x.does(calls);
    }

    static int next(int z) {
        return z * 1103515245 + 12345;
    }

    static int rest(int z, int by) {
        return (z >>> 8) % by;
    }

    /** Something of all, and room for more of each: 5 beds, 5 folk, 3 texts, sheets, slots, an image, 3 numbers, 6 bytes. */
    Run busy() {
        return busy("tell(-1)").tape("fee s+");
    }

    private Run busy(String tells) {
        Run x = run("seed(77); carry(30); bed(0, 0, 1, 2); bed(1, 1, 2, 0); bed(2, 2, 3, 0); bed(3, 0, 3, 5); bed(4, 3, 4, 5)");
        x.does("one(0, 3); one(0, 1); one(1, 2); one(2, 3); one(4, 0); sends(4, 3, 1); sends(1, 2, 4)");
        x.text("hours t+2-w/3", 0).text("fee s*3+a", 1).text("fine f*8+o", 2);
        x.does("nights(3)");
        int slept = x.call("behind(1, 0)");
        int home = x.call("behind(1, 2)");
        x.does("keep(); nights(2); turns(0, 2); sends(0, 0, 6); seed(-5)");
        x.does("sheet(0, 0, 3); mark(0, 0, 1); mark(0, 2, -5); sheet(1, 1, 4); mark(1, 1, NONE); mark(1, 3, 9); sheet(2, 0, 0)");
        x.does("lay(0, 1, 3); lay(1, 2, 0); lay(2, 3, 17); lay(3, 2, 1)");
        if (!tells.isEmpty()) {
            x.does("tell(" + slept + "); tell(" + home + "); " + tells);
        }
        return x;
    }

    Run busyWithoutTape() {
        return busy("tell(-1)");
    }

    Run busyWithoutNumbers() {
        return busy("").tape("fee s+");
    }

    /** As many as there may be: 10 beds, 9 folk, 14 texts, 96 bytes (which are a text), 60 numbers. */
    Run full() {
        return fullWithoutTape().tape("fee 1" + "+1".repeat(45) + " ");
    }

    Run fullWithoutTape() {
        Run x = run("deal(10); keep()");
        for (int i = 0; i < 9; i++) {
            x.does("one(" + i % 8 + ", " + (i * 3) % 8 + ")");
        }
        for (int i = 0; i < 14; i++) {
            x.text("fee " + i, i);
        }
        for (int i = 1; i <= 60; i++) {
            x.due("tell(" + i + ")", i);
        }
        return x;
    }

    /** Refused by this, each on an object of its own; and it stands as another does that was not asked. */
    void refused(Supplier<Run> state, int by, String... calls) {
        refusedBut(state, state, by, calls);
    }

    /** As refused, but that it stands as the other state does. */
    void refusedBut(Supplier<Run> state, Supplier<Run> then, int by, String... calls) {
        String due = then.get().all();
        for (String call : calls) {
            d.same("behind " + call, state.get().due(call, by).all(), due);
        }
    }

    /** From the least to the greatest, in the place of #, none is refused; one below, one above, and far off, are. */
    void range(Supplier<Run> state, int least, int greatest, String call) {
        int[] within = {least, least + 1, greatest - 1, greatest};
        for (int v : within) {
            String its = with(call, v);
            d.holds(its + " is not refused", !isRefusal(state.get().call(its)));
        }
        refused(state, BAD, with(call, least - 1), with(call, greatest + 1), with(call, MIN), with(call, MAX), with(call, least - 100), with(call, greatest + 256));
    }

    static String with(String call, int v) {
        return call.replace("#", String.valueOf(v));
    }

    static boolean isRefusal(int answer) {
        for (int refusal : ALL_REFUSALS) {
            if (answer == refusal) {
                return true;
            }
        }
        return false;
    }
}
