import com.sun.management.ThreadMXBean;
import java.lang.management.ManagementFactory;
import java.util.LinkedHashMap;
import java.util.Map;
import java.util.function.ToLongFunction;

/**
 * All calls of a run share one room of some 600,000 objects and 7.3 million fields and elements. A run of 512 calls, each
 * method by turns or the dearest ones alone, has to stay within it.
 */
public final class RoomTest {
    /** An element takes at least four bytes here, so what takes more than these bytes may be out of the room. */
    private static final long ROOM = 4 * 7_300_000L;
    private static final int CALLS = 512;
    private static final Check C = new Check("RoomTest");
    private static final ThreadMXBean BEAN = (ThreadMXBean) ManagementFactory.getThreadMXBean();
    private static long sink = 0;

    public static void main(String[] args) {
        runOf("each method by turns", x -> eachMethod(x));
        Map<String, ToLongFunction<KeptSeats>> dear = new LinkedHashMap<>();
        dear.put("sure", x -> x.sure(0));
        dear.put("nearest", x -> x.nearest(0));
        dear.put("threshold", x -> x.threshold(15));
        dear.put("claim", x -> x.claim(15));
        dear.put("successor", x -> x.successor(0));
        dear.put("envy", KeptSeats::envy);
        dear.put("ways", x -> x.ways(0));
        dear.put("by", x -> x.by(1, 3));
        dear.put("round", KeptSeats::round);
        dear.put("mark", x -> x.mark(0, 50));
        dear.put("back", x -> x.back(0));
        for (Map.Entry<String, ToLongFunction<KeptSeats>> call : dear.entrySet()) {
            runOf(call.getKey(), x -> again(x, call.getValue()));
        }
        C.holds("answers are used", sink != 0);
        C.end();
    }

    private static void runOf(String name, ToLongFunction<KeptSeats> calls) {
        long own = Thread.currentThread().getId();
        long before = BEAN.getThreadAllocatedBytes(own);
        KeptSeats x = new KeptSeats();
        fill(x);
        sink += calls.applyAsLong(x);
        long bytes = BEAN.getThreadAllocatedBytes(own) - before;
        C.holds("a run of " + name + " takes " + bytes + " bytes, not more than the room's " + ROOM, bytes <= ROOM);
    }

    /** 16 applicants and some seats, in 31 calls. */
    private static void fill(KeptSeats x) {
        for (int p = 0; p < 16; p++) {
            sink += x.enter(90 - p, p, p % 4, p);
        }
        for (int k = 0; k < 4; k++) {
            sink += x.seats(k, 2) + x.reserve(k, k, 2) + x.reserve(k, 3 - k, 1);
        }
        sink += x.heir(1, 2) + x.heir(2, 3) + x.heir(3, 0);
    }

    private static long again(KeptSeats x, ToLongFunction<KeptSeats> call) {
        long sum = 0;
        for (int i = 31; i < CALLS; i++) {
            sum += call.applyAsLong(x);
        }
        return sum;
    }

    private static long eachMethod(KeptSeats x) {
        long sum = 0;
        for (int p = 0; p < 15; p++) {
            int k = p % 4;
            sum += x.mark(p, p * 5) + x.ticket(p, p) + x.kind(p, k) + x.groups(p, p) + x.ofPerson(p, 5) + x.ranked(p);
            sum += x.above(p) + x.alike(p) + x.seats(k, 4) + x.reserve(k, k, 3) + x.manner(p % 3) + x.order(3, 2, 1, 0);
            sum += x.seat(p) + x.counted(p) + x.handed(p) + x.taken(k, 0) + x.ofKind(k, 5) + x.ways(k) + x.by(k % 3, 3);
            sum += x.sure(1) + x.threshold(p) + x.claim(p) + x.successor(p) + x.passed(p) + x.nearest(p) + x.envy();
            sum += x.round() + x.answer(p, 1) + x.again(p) + x.note(p, 0) + x.back(2) + x.many(2);
        }
        return sum;
    }
}
