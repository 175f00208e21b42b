import com.sun.management.ThreadMXBean;
import java.lang.management.ManagementFactory;

/** All calls of a run live in one room: the dearest calls make nothing new, a new object makes little. */
final class RoomTest {
    private static final Check CHECK = new Check("RoomTest");
    private static final String TEXT = "l55555;p110000;b101000;d100100;p100010;b400001";

    public static void main(String[] args) {
        ThreadMXBean bean = (ThreadMXBean) ManagementFactory.getThreadMXBean();
        oneRun(new LampSwitches());
        long before = bean.getCurrentThreadAllocatedBytes();
        LampSwitches x = new LampSwitches();
        long made = bean.getCurrentThreadAllocatedBytes();
        oneRun(x);
        long used = bean.getCurrentThreadAllocatedBytes();
        CHECK.due("a new object takes " + (made - before) + " bytes, few", made - before < 40_000 ? 1 : 0, 1);
        // Check.take makes some rows of its own.
        CHECK.due("its calls take " + (used - made) + " bytes, few", used - made < 40_000 ? 1 : 0, 1);
        CHECK.end();
    }

    private static void oneRun(LampSwitches x) {
        Check.take(x, TEXT);
        for (int n = 0; n < 60; n++) {
            x.sheet(1, 2, 60);
            x.turn(0, 1 + n % 4);
            x.spare();
            x.fewest(1, 2, 0, 20);
            x.day(1, 2, 0, 20, 4);
            x.odds(4, 0);
            x.kinds(0);
            x.hall(0, 0, 0, TEXT.length());
        }
    }
}
