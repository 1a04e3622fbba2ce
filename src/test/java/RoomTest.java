import java.lang.management.ManagementFactory;

/** The room of a run: what the constructor makes is small, and no call makes anything behind it. */
public final class RoomTest {
    private static final com.sun.management.ThreadMXBean COUNTER =
        (com.sun.management.ThreadMXBean) ManagementFactory.getThreadMXBean();
    private static final Due due = new Due("RoomTest");

    public static void main(String[] args) {
        fullRun();
        long before = COUNTER.getCurrentThreadAllocatedBytes();
        RibbonSetter x = new RibbonSetter();
        long made = COUNTER.getCurrentThreadAllocatedBytes() - before;
        due.is("an object takes under 64 KiB, not " + made, made < 65536, true);

        before = COUNTER.getCurrentThreadAllocatedBytes();
        int sum = calls(x);
        long used = COUNTER.getCurrentThreadAllocatedBytes() - before;
        due.is("a full run of calls makes under 4 KiB, not " + used + " (" + sum + ")", used < 4096, true);
        due.end();
    }

    // Once ahead of the count, so that what the machine itself makes at first is made by then.
    private static void fullRun() {
        COUNTER.getCurrentThreadAllocatedBytes();
        calls(new RibbonSetter());
    }

    private static int calls(RibbonSetter x) {
        int sum = 0;
        for (int p = 0; p < 9; p++) {
            sum += x.flow(p, p + 1, 1) ? 1 : 0;
        }
        sum += x.flow(0, 9, 2) && x.flow(0, 4, 2) && x.flow(3, 9, 2) && x.flow(0, 5, 2) ? 1 : 0;
        sum += x.flow(4, 9, 2) && x.flow(0, 6, 2) && x.flow(5, 9, 2) ? 1 : 0;
        for (int i = 0; i < 61; i++) {
            sum += x.flow(i % 9, i % 9 + 1, 1 + i) ? 1 : 0;
            sum += x.cost() + x.orders() + x.part(i % 3) + x.item(i % 10, i % 5);
            sum += x.place(i % 10, 1) + x.point(0, 9, i % 10, i % 2) + x.about(i % 8);
        }
        return sum + (x.keep() ? 1 : 0);
    }
}
