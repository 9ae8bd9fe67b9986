import com.sun.management.ThreadMXBean;
import java.lang.management.ManagementFactory;

/** A run of 512 calls: all of them are answered, and what they make fits into one small room. */
public final class RoomTest {
    private static final int CALLS = 512;
    /** The room has 7.3 million fields and elements for all objects of a run: of four bytes at least. */
    private static final long MOST_BYTES = 4L * 7_300_000;
    private static final Checks CHECKS = new Checks("RoomTest");

    public static void main(String[] args) {
        theLastCall();
        room("gluings", 0, 20000);
        room("gluings", 1, 20000);
        room("wholes", 2, 0);
        room("farthest", 0, 23);
        room("mean", 0, 0);
        room("layOut", 0, 0, 27, 3);
        room("alike", 0, 1);
        room("edge", 1, 49, 2);
        room("digest");
        CHECKS.end();
    }

    /** "An object is used for at most 512 calls": the last of them is answered as the first is. */
    private static void theLastCall() {
        PaperBodies x = new PaperBodies();
        for (int call = 1; call < CALLS - 2; call++) {
            CHECKS.due("call " + call, x.tear(call % 4), PaperBodies.FINDING);
        }
        CHECKS.due("findings(1)", x.findings(1), CALLS - 3);
        CHECKS.due("row(3, 24)", x.row(3, 24), 24);
        CHECKS.due("the last call", x.tear(3), 1);
    }

    /** Figure 0 has a rim of 18, the longest that can be sought through, figure 1 one of 50. */
    private static void room(String name, long... args) {
        ThreadMXBean threads = (ThreadMXBean) ManagementFactory.getThreadMXBean();
        long thread = Thread.currentThread().getId();
        long before = threads.getThreadAllocatedBytes(thread);
        PaperBodies x = new PaperBodies();
        x.box(0, 2, 2, 2);
        x.figure(0, 0xFFL);
        x.figure(1, 0x55FF555555L);
        x.layOut(0, 0, 27, 2);
        long wrong = 0;
        for (int call = 4; call < CALLS; call++) {
            wrong += Calls.call(x, name, args) == PaperBodies.BAD ? 1 : 0;
        }
        long made = threads.getThreadAllocatedBytes(thread) - before;
        CHECKS.due("refused: " + name, wrong, 0);
        CHECKS.holds(name + " makes " + made + " bytes", made <= MOST_BYTES);
    }
}
