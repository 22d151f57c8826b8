import java.lang.management.ManagementFactory;
import java.util.function.IntConsumer;

/** All calls of a run live in one room: no call makes an object, however dear it is, and a new object is small. */
public final class RoomTest {
    private static final Due d = new Due("RoomTest");
    private static final int CALLS = 500;

    public static void main(String[] args) {
        measure("a new object", 1, 40000, i -> new BedsArePlaces());
        BedsArePlaces x = new BedsArePlaces();
        x.seed(5);
        x.deal(10);
        for (int i = 0; i < 9; i++) {
            x.one(i & 7, 7 - (i & 7));
        }
        Due.text(x, "hours (t+w*2-n/3)*(t=0|w>1&!n<7)+1");
        Due.text(x, "fee s*a");
        Due.text(x, "fine f*o");
        x.sheet(0, 0, 24);
        x.sheet(1, 1, 24);
        x.keep();
        none("brought", i -> x.brought(i % 9, 0));
        none("belongs", i -> x.belongs(i % 10, 60, 0));
        none("becomes", i -> x.becomes(i % 10, 60, 0));
        none("home", i -> x.home(i % 9));
        none("behind", i -> x.behind(100, 0));
        none("whose", i -> x.whose(0, 0));
        none("nights", i -> x.nights(100));
        none("lacks, missed", i -> x.missed(x.lacks() & 1));
        none("reach, way", i -> x.way(i & 7, x.reach(3) & 7));
        none("feed, text", i -> {
            x.feed(0x66656520, 0x28732B61, 0x292A3220);
            x.text();
        });
        none("sheets", i -> {
            x.sheet(i & 3, i & 1, 24);
            x.mark(i & 3, 3, i);
            x.copy(1, 0, 3, 1, 23);
            x.pour(i & 3);
            x.reads(i & 3);
        });
        none("slots", i -> {
            x.lay(i % 5, i & 3, i & 3);
            x.ask(i % 5, 0);
            x.item(i % 5, 0);
            x.rest(i % 5, 7);
        });
        none("keep, back", i -> {
            x.keep();
            x.back();
        });
        none("tell, check", i -> {
            x.tell(i);
            x.check(30);
        });
        d.end();
    }

    private static void none(String what, IntConsumer call) {
        measure(what, CALLS, CALLS, call);
    }

    /** Less than a byte a call: what the measuring itself makes is within it. */
    private static void measure(String what, int calls, long most, IntConsumer call) {
        com.sun.management.ThreadMXBean room = (com.sun.management.ThreadMXBean) ManagementFactory.getThreadMXBean();
        long thread = Thread.currentThread().getId();
        for (int i = 0; i < 3; i++) {
            call.accept(i);
            room.getThreadAllocatedBytes(thread);
        }
        long before = room.getThreadAllocatedBytes(thread);
        for (int i = 0; i < calls; i++) {
            call.accept(i);
        }
        long made = room.getThreadAllocatedBytes(thread) - before;
        d.holds(what + " made " + made + " bytes in " + calls + " calls, at most " + most + " are due", made <= most);
    }
}
