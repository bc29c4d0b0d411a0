import com.sun.management.ThreadMXBean;
import java.lang.management.ManagementFactory;

/** What an object and its dearest calls take of the room that all calls of a run live in. */
public final class RoomTest {
    private static final ThreadMXBean THREAD = (ThreadMXBean) ManagementFactory.getThreadMXBean();

    public static void main(String[] args) {
        Due due = new Due();
        dear(made(), 40);
        long begun = bytes();
        ByLot x = made();
        long came = bytes() - begun;
        due.holds("an object is small: " + came + " bytes", came < 200_000);
        begun = bytes();
        dear(x, 40);
        long rest = bytes() - begun;
        due.holds("what is kept is made once: " + rest + " bytes", rest < 200_000);
        begun = bytes();
        dear(x, 40);
        long again = bytes() - begun;
        due.holds("calls make nothing: " + again + " bytes", again < 2_000);
        due.end("RoomTest");
    }

    private static ByLot made() {
        return Lands.busy();
    }

    private static void dear(ByLot x, int times) {
        for (int n = 0; n < times; n++) {
            x.rounds(n % 2);
            x.ever();
            x.pay();
            x.best(-1);
            x.keep();
            x.swaps();
            x.alike(36);
            x.looked(1, 0);
            x.judge(0, 0, 36);
            x.act(1, 2, n);
            x.feed('p', 1);
            x.valley();
            x.go(1);
            x.undo();
        }
    }

    private static long bytes() {
        return THREAD.getCurrentThreadAllocatedBytes();
    }
}
