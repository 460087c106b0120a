import com.sun.management.ThreadMXBean;
import java.lang.management.ManagementFactory;

/** A run of calls has one room: a new object takes little of it, and its calls take none. */
public final class RoomTest {
    private static final Checks CHECKS = new Checks();
    private static final ThreadMXBean BEAN = (ThreadMXBean) ManagementFactory.getThreadMXBean();

    public static void main(String[] args) {
        // Once for the virtual machine's own objects, such as classes that are loaded.
        calls(new TaintScanner());
        long before = allocated();
        TaintScanner x = new TaintScanner();
        long made = allocated() - before;
        CHECKS.holds("a new object takes " + made + " bytes", made < 400_000);
        before = allocated();
        calls(x);
        long used = allocated() - before;
        CHECKS.holds("16 * 32 calls take " + used + " bytes", used < 2_000);
        CHECKS.close("RoomTest");
    }

    private static long allocated() {
        return BEAN.getThreadAllocatedBytes(Thread.currentThread().getId());
    }

    /** Programs of 24 lines with loops within loops, each analysed and run. */
    private static void calls(TaintScanner x) {
        for (int i = 0; i < 16; i++) {
            x.clear();
            addLines(x);
            x.give(0, 0x123412);
            x.analyse();
            x.run(1000);
            x.size(0);
            x.accepts(1, 0x5225);
            x.witness(0, 1);
            x.attack(0x12345678);
        }
    }

    private static void addLines(TaintScanner x) {
        x.get(0, 0);
        x.set(1, 0x1234);
        x.set(2, 0x13);
        x.loop(0, 0, 1);
        x.join(3, 0, 1);
        x.loop(3, 2, 4);
        x.apply(3, 3, 0);
        x.join(2, 2, 1);
        x.loop(0, 1, 3);
        x.join(0, 0, 2);
        x.apply(0, 0, 1);
        x.end();
        x.sink(2);
        x.end();
        x.apply(4, 3, 2);
        x.sink(4);
        x.end();
        x.when(4, 0, 2);
        x.join(1, 1, 4);
        x.other();
        x.sink(1);
        x.end();
        x.sink(0);
        x.sink(3);
    }
}
