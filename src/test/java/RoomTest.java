import com.sun.management.ThreadMXBean;
import java.lang.management.ManagementFactory;

/** All calls of a run share one room: an object is small, and calls after the constructor make nothing. */
public final class RoomTest {
    private static final Check C = new Check("RoomTest");
    private static final ThreadMXBean BEAN = (ThreadMXBean) ManagementFactory.getThreadMXBean();
    private static long sink = 0;

    public static void main(String[] args) {
        long own = Thread.currentThread().getId();
        fullRun(new KeptSeats());
        long start = BEAN.getThreadAllocatedBytes(own);
        KeptSeats x = new KeptSeats();
        long made = BEAN.getThreadAllocatedBytes(own);
        fullRun(x);
        long end = BEAN.getThreadAllocatedBytes(own);
        C.holds("an object takes at most 40,000 bytes: " + (made - start), made - start <= 40_000);
        C.holds("512 calls make nothing: " + (end - made) + " bytes", end - made <= 2_000);
        C.holds("answers are used", sink != 0);
        C.end();
    }

    /** 16 applicants, then each method by turns, up to 512 calls. */
    private static void fullRun(KeptSeats x) {
        for (int p = 0; p < 16; p++) {
            sink += x.enter(p * 7 % 100, p, p % 4, p);
        }
        for (int k = 0; k < 4; k++) {
            sink += x.seats(k, 3) + x.reserve(k, k, 2) + x.reserve(k, 3 - k, 1);
        }
        sink += x.heir(1, 2) + x.heir(2, 3) + x.heir(3, 0);
        for (int i = 0; i < 13; i++) {
            int p = i;
            int k = i % 4;
            sink += x.mark(p, i * 5) + x.ticket(p, i) + x.kind(p, k) + x.groups(p, i) + x.ofPerson(p, 5) + x.ranked(i);
            sink += x.above(i) + x.alike(i) + x.seats(k, 4) + x.reserve(k, k, 3) + x.manner(i % 3) + x.order(3, 2, 1, 0);
            sink += x.seat(p) + x.counted(p) + x.handed(p) + x.taken(k, 0) + x.ofKind(k, 5) + x.ways(k) + x.by(k % 3, 3);
            sink += x.sure(1) + x.threshold(p) + x.claim(p) + x.successor(p) + x.passed(p) + x.nearest(i) + x.envy();
            sink += x.round() + x.answer(p, 1) + x.again(p) + x.note(p, 0) + x.back(2) + x.many(2);
        }
    }
}
