import com.sun.management.ThreadMXBean;
import java.lang.management.ManagementFactory;

/** What lives in the one room: an object is made once, and none of its calls makes anything more. */
public final class RoomTest {
    private static final int CALLS = 512;

    private RoomTest() {
    }

    /** One of each call that works much, on a network that makes it work. */
    private static int askAll(ZeroForcer x, int turn) {
        int sum = x.rule(turn % 5, 1 + turn % 4) + x.best(0) + x.mendTwo(0, 8, 0) + x.mend(3, 1) + x.least(3);
        sum += x.cheapest(0) + x.many(4) + x.throttle(1) + x.spread(4) + x.lineSpread(0, 2) + x.forts(5, 1);
        sum += x.innerFort(3) + x.meets(7) + x.fort(85) + x.chain(3, 0, 2) + x.ends(3) + x.rank(0) + x.kernel(0, 1);
        sum += x.film(turn % 3, turn % 512, 39) + x.fits(turn % 3, 9, 0) + x.fits(turn % 3, 9, 1) + x.judge(turn % 3);
        sum += x.act(1, 1, turn) + x.trace(0) + x.taken(1, 0) + x.image() + x.back() + x.count(7) + x.undo() + x.redo();
        sum += x.row(2, 40) + x.put(2, 1, turn) + x.get(2, 1) + x.closure(3) + x.time(3) + x.round(3) + x.prime(31);
        sum += x.line(0, 5, turn & 1) + x.kind(1, turn % 5) + x.cost(1, turn % 10) + x.table(4, 4, turn % 10);
        sum += x.feed('k') + x.feed('2') + x.feed(',') + x.feed('1') + x.read() + x.wipe() + x.entry(0, 1) + x.of(1, 2);
        return sum;
    }

    public static void main(String[] args) {
        ThreadMXBean threads = (ThreadMXBean) ManagementFactory.getThreadMXBean();
        long self = Thread.currentThread().getId();
        ZeroForcer warm = new ZeroForcer();
        warm.points(9);
        int sum = askAll(warm, 1) + (int) threads.getThreadAllocatedBytes(self);

        long before = threads.getThreadAllocatedBytes(self);
        ZeroForcer x = new ZeroForcer();
        long made = threads.getThreadAllocatedBytes(self) - before;
        Check.holds("a new object takes " + made + " bytes, 16000 at most", made > 0 && made <= 16000);

        x.points(9);
        before = threads.getThreadAllocatedBytes(self);
        for (int turn = 0; turn < CALLS; turn++) {
            sum += askAll(x, turn);
        }
        long more = threads.getThreadAllocatedBytes(self) - before;
        // the measure itself may take a few bytes; one array a call would take thousands
        Check.holds(CALLS + " turns of all calls make " + more + " bytes more, 1000 at most", more <= 1000);
        Check.holds("the sum is used", sum != Integer.MIN_VALUE);
        Check.end();
    }
}
