import com.sun.management.ThreadMXBean;
import java.lang.management.ManagementFactory;

/** All calls of a run live in one room: an object is small, and its dearest calls make nothing new. */
public final class RoomTest {
    private static final ThreadMXBean THREADS = (ThreadMXBean) ManagementFactory.getThreadMXBean();

    public static void main(String[] args) {
        WayShares x = dearest();
        calls(x, 1);
        long before = taken();
        calls(x, 512);
        long bytes = taken() - before;
        Check.due("512 dear calls take " + bytes + " bytes", bytes < 20000, true);
        before = taken();
        new WayShares();
        bytes = taken() - before;
        Check.due("an object takes " + bytes + " bytes", bytes < 60000, true);
        Check.finish("RoomTest");
    }

    private static long taken() {
        return THREADS.getThreadAllocatedBytes(Thread.currentThread().getId());
    }

    private static WayShares dearest() {
        WayShares x = Check.road("w;wf1;wf2;wf3;wf4;wf5;wf6;wf7;wf8;rt9;rt8;rt7;rt6;rt5;rt4;cs9p20n1");
        Check.rule(x, "y:k=0&m>s?m*w+[n-p]/k;y:k+1");
        return x;
    }

    private static void calls(WayShares x, int times) {
        for (int k = 0; k < times; k++) {
            x.feed(0x77007200, 0, 0, 0, 0);
            x.fault(k % 2);
            x.end(0);
            x.steady(k % 4, -1);
            x.coaches(0);
            x.order(63, k % 3, 0);
            x.lie(k % 6, k % 4, 1);
            x.complaint(k % 4, 1);
            x.worse(k % 4, -1);
            x.left(k % 4);
            x.fits(k % 6);
            x.see(0, 1, 1);
            x.drawn(40, k % 4, k);
            x.undo();
            x.image();
            x.back();
            x.bridge(0);
            x.ride(63, 12345, 5);
        }
    }
}
