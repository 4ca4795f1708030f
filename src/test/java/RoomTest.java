import com.sun.management.ThreadMXBean;
import java.lang.management.ManagementFactory;

/** All calls of a run live in one room: only the constructor and keep() may make rows, and few of them. */
public final class RoomTest {
    private static final long MOST_OF_CALLS = 4096;
    private static final long MOST_OF_OBJECT = 32768;
    private static final ThreadMXBean ROOM = (ThreadMXBean) ManagementFactory.getThreadMXBean();

    private static int sum;

    private static void dearCalls(StormSlots x, int calls) {
        for (int k = 0; k < calls; k++) {
            int f = k % 20;
            int l = k % 5;
            sum += x.letter(k) + x.bestOrder(l, -1) + x.bestCancel(l, 0) + x.helps(f, l) + x.rateFor(0, 11, 5);
            sum += x.byRule(k % 3, 3) + x.would(1, 0, 11, 0) + x.ifCut(719, 0) + x.crowded(0) + x.breaks(f, 900);
            sum += x.bestDeal(0) + x.rank(l) + x.unfair() + x.order(l) + x.cancel(f) + x.fill() + x.revise() + x.plan();
            sum += x.storm(k, 0, 11, 3) + x.draws(k, 20) + x.plan() + x.link(0, 1, 5) + x.count(12) + x.keep() + x.undo();
            sum += x.feed(k, k, k, k, k) + x.schedule(20) + x.draws(k, 20) + x.plan();
        }
    }

    private static long used() {
        return ROOM.getThreadAllocatedBytes(Thread.currentThread().getId());
    }

    public static void main(String[] args) {
        StormSlots warm = new StormSlots();
        dearCalls(warm, 20);
        for (int k = 0; k < 8; k++) sum += warm.keep();
        used();
        long before = used();
        StormSlots x = new StormSlots();
        for (int k = 0; k < 8; k++) sum += x.keep();
        long made = used();
        for (int k = 0; k < 8; k++) sum += x.undo();
        dearCalls(x, 512);
        long after = used();
        System.out.println("an object with 8 states: " + (made - before) + " bytes, its calls then: " + (after - made) + " (" + sum + ")");
        if (made - before > MOST_OF_OBJECT || after - made > MOST_OF_CALLS) System.exit(1);
    }
}
