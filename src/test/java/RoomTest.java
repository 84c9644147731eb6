import com.sun.management.ThreadMXBean;
import java.lang.management.ManagementFactory;
import java.util.NoSuchElementException;

/** An object makes its rows once: its dearest calls, 512 of them, stay far below the room that a run has. */
public final class RoomTest {
    private static final int CALLS = 512;
    private static final long MOST_BYTES = 400_000;

    public static void main(String[] args) {
        ThreadMXBean threads = (ThreadMXBean) ManagementFactory.getThreadMXBean();
        long id = Thread.currentThread().getId();
        dearRun();
        long before = threads.getThreadAllocatedBytes(id);
        long sum = dearRun();
        long bytes = threads.getThreadAllocatedBytes(id) - before;
        System.out.println("a dear run takes " + bytes + " bytes");
        Check.due("bytes of a dear run within " + MOST_BYTES, bytes <= MOST_BYTES, true);
        Check.due("it counted", sum > 0, true);
        Check.finish();
    }

    private static long dearRun() {
        TwinRows x = new TwinRows();
        long sum = 0;
        for (int call = 0; call < CALLS; call += 9) {
            x.kind(0, 9);
            sum += x.ways();
            x.pin(1, 1 + call % 17);
            sum += lastRow(x);
            sum += x.extended(7, 1 + call % 15);
            sum += x.drawn(60, call);
            x.image(call % 2);
            x.feed(call, call, call, call, call);
            x.frame();
        }
        return sum;
    }

    private static int lastRow(TwinRows x) {
        try {
            return x.row(0);
        } catch (NoSuchElementException e) {
            return 0;
        }
    }
}
