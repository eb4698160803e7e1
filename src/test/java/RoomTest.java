import com.sun.management.ThreadMXBean;
import java.lang.management.ManagementFactory;

/** All calls of a run share one room, so no call may make anything: every row comes with the constructor. */
public final class RoomTest {
    private static final ThreadMXBean THREADS = (ThreadMXBean) ManagementFactory.getThreadMXBean();

    private RoomTest() {
    }

    public static void main(String[] args) {
        PopPan x = new PopPan();
        Check.type(x, 0, "h20x99;s;l;h9x50;o;s;h12x51");
        Check.type(x, 1, "g5|t190");
        for (int g = 0; g < 12; g++) {
            x.grain(g % 2, 5 + 7 * g, 3 + g, 1 + g % 9, g % 5);
        }
        x.heard(0, 30);
        // The first round may load classes, which is not the calls' own making.
        long first = all(x);
        long before = THREADS.getThreadAllocatedBytes(Thread.currentThread().getId());
        for (int i = 0; i < 20; i++) {
            first ^= all(x);
        }
        long made = THREADS.getThreadAllocatedBytes(Thread.currentThread().getId()) - before;
        Check.holds("20 rounds of all calls (" + first + ") made " + made + " bytes", made < 2000);
        Check.holds("one object takes " + room() + " bytes", room() < 16000);
        Check.end();
    }

    private static long room() {
        long before = THREADS.getThreadAllocatedBytes(Thread.currentThread().getId());
        PopPan x = new PopPan();
        long after = THREADS.getThreadAllocatedBytes(Thread.currentThread().getId());
        return after - before + x.count(0);
    }

    private static long all(PopPan x) {
        long sum = x.type(2, 'q') + x.wipe(2) + x.fault(0) + x.pan(3, 0) + x.change(0, 0, 9) + x.set(0, 10);
        sum += x.after(3, 200, 0) + x.sounds(99, true) + x.stop(0, 5) + x.best() + x.even(100, 0) + x.front(100, -1);
        sum += x.air(150, 0) + x.shaken(120, 0) + x.late(1) + x.sieved(4, 90, 1);
        sum += x.jar(9, 50, 9) + x.length(9, 50, 20, 30) + x.cracked(30, 9, 9, 3, 0) + x.span(30, 9, 3, 9, 0);
        sum += x.heard(1, 50) + x.fits(3) + x.sheet(0, 2, 60) + x.lay(0, 2, 5, 5) + x.get(0, 2, 5);
        sum += x.copy(0, 0, 0, 1, 9) + x.write(0, 0) + x.read(0, 0) + x.lose(0) + x.count(7) + x.digest();
        return sum;
    }
}
