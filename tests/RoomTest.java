import com.sun.management.ThreadMXBean;
import java.lang.management.ManagementFactory;

/** What a run makes is made with the object: the dearest calls, as many as may be, take next to no room. */
public final class RoomTest {
    private static final long ONE_OBJECT = 20_000;
    private static final long ALL_CALLS = 20_000;

    public static void main(String[] args) {
        ThreadMXBean threads = (ThreadMXBean) ManagementFactory.getThreadMXBean();
        // the first time round loads classes, whose room is not the run's
        takeRound(threads);
        long[] room = takeRound(threads);
        System.out.println("bytes of one object: " + room[0] + ", of its calls: " + room[1]);
        Checks.due("one object is small", 1, room[0] < ONE_OBJECT ? 1 : 0);
        Checks.due("calls make next to nothing", 1, room[1] < ALL_CALLS ? 1 : 0);
        Checks.end();
    }

    private static long[] takeRound(ThreadMXBean threads) {
        long start = threads.getCurrentThreadAllocatedBytes();
        BackHooks x = new BackHooks();
        long made = threads.getCurrentThreadAllocatedBytes();
        Checks.type(x, 0, "ssssssssssss");
        Checks.type(x, 1, "m99;w90;q99;m98;w91;q90;m97;w92");
        for (int i = 0; i < 8; i++) {
            x.event(2, i, 11 - i);
        }
        for (int i = 0; i < 150; i++) {
            x.back();
            x.event(2, i % 12, 0);
            x.sheet(i % 4, 2, 60);
            x.digest();
        }
        return new long[] {made - start, threads.getCurrentThreadAllocatedBytes() - made};
    }
}
