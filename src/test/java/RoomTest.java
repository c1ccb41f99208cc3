import java.lang.management.ManagementFactory;
import java.util.function.IntConsumer;

/**
 * All calls of one run live in one room of some 600,000 objects and arrays and 7.3 million fields and elements:
 * what 512 calls of any one kind make, with the object itself, is held far below that.
 */
public final class RoomTest {
    /** A twentieth of the room, at four bytes a field or element. */
    private static final long MOST_BYTES = 7_300_000L / 20 * 4;
    private static final int CALLS = 511;

    private static final com.sun.management.ThreadMXBean THREADS =
            (com.sun.management.ThreadMXBean) ManagementFactory.getThreadMXBean();
    private static final Due due = new Due();
    private static GiftLots lots;

    public static void main(String[] args) {
        due.about("bytes made by " + CALLS + " calls");
        makes("ones", call -> lots.ones(8 - call % 3));
        makes("may", call -> lots.may(call % 8, (call + 1) % 8, call % 2 == 0));
        makes("couple", call -> lots.couple(call % 8, (call + 1) % 8));
        makes("bar", call -> lots.bar());
        makes("least", call -> lots.least(2 + call % 7));
        makes("ways", call -> lots.ways());
        makes("free", call -> lots.free());
        makes("way", call -> lots.way(14832 - call, 7));
        makes("rounds", call -> lots.rounds(1 + call % 4));
        makes("both", call -> lots.both(call % 8, (call + 1) % 8));
        makes("rooks", call -> lots.rooks(call % 9));
        makes("heap", call -> lots.heap());
        makes("lay", call -> lots.lay(call % 8, -1));
        makes("laid", call -> lots.laid(call % 8));
        makes("draw", call -> lots.draw(14832 - call));
        makes("rank", call -> lots.rank());
        makes("share", call -> lots.share(call % 8, 7));
        makes("knows", call -> lots.knows(call % 8));
        makes("sure", call -> lots.sure(0, call % 8));
        makes("changes", call -> lots.changes(call % 8));
        makes("mends", call -> lots.mends(call % 8));
        makes("mend", call -> lots.mend(7, call % 7));
        makes("told", call -> lots.told(call % 4));
        due.end();
    }

    private static void makes(String name, IntConsumer asks) {
        long thread = Thread.currentThread().getId();
        long before = THREADS.getThreadAllocatedBytes(thread);
        lots = new GiftLots();
        lots.ones(8);
        lots.draw(14832);
        for (int call = 2; call < CALLS; call++) {
            asks.accept(call);
        }
        long made = THREADS.getThreadAllocatedBytes(thread) - before;
        due.holds(name + ": " + made, made > 0 && made < MOST_BYTES);
    }
}
