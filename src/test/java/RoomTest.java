import com.sun.management.ThreadMXBean;
import java.lang.management.ManagementFactory;

/** All calls of a run share one room: an object is small, and its calls make nothing. */
public final class RoomTest {
    private static final int OBJECT_BYTES = 32_000;
    private static final int CALLS_BYTES = 4_000;
    private static final ThreadMXBean THREADS =
            (ThreadMXBean) ManagementFactory.getThreadMXBean();

    private static long made() {
        return THREADS.getThreadAllocatedBytes(Thread.currentThread().getId());
    }

    private static long use(BlendBench x) {
        long sum = 0;
        for (int round = 0; round < 15; round++) {
            sum += x.feed(151389188, 135333892, 235209988, 235144457, 201654548);
            sum += x.feed(184616452, 84084756, 101058309, 235080195, 184749060);
            sum += x.feed(84477703, 51054602, 117769988, 184681747, 436208640);
            sum += x.feed(402720000, 0, 0, 0, 0);
            sum += x.end(64) ? 1 : 0;
            sum += x.sheet(0, 8, 60);
            sum += x.feed(0x00010202, 0x00010102, 0, 0, 0);
            sum += x.end(9) ? 1 : 0;
            sum += x.sheet(1, 3, 3);
            sum += x.lazy(1, 2);
            sum += x.back(2, 3);
            sum += x.feed(0x07070700, 0, 0, 0, 0);
            sum += x.end(3) ? 1 : 0;
            sum += x.melt(2, 4);
            sum += x.about(0, 6) + x.state(0, 7, 2) + x.when(0, 0, 1) + x.cut(0) + x.count(0);
            sum += x.steps(0, 0, 128, 0) + x.ahead(0, 1, 1, 128, 1) + x.narrow(0, 1);
            sum += x.about(2, 6) + x.state(2, 1, 2) + x.when(2, 0, 1) + x.cut(2) + x.octet(2);
        }
        return sum;
    }

    public static void main(String[] args) {
        use(new BlendBench());
        long start = made();
        BlendBench x = new BlendBench();
        long object = made() - start;
        long sum = use(x);
        long calls = made() - start - object;
        System.out.println("bytes of an object " + object + ", of its calls " + calls
                + " (answers together " + sum + ")");
        if (object > OBJECT_BYTES || calls > CALLS_BYTES) {
            System.exit(1);
        }
    }
}
