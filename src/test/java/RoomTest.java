import java.lang.management.ManagementFactory;

/** All calls of a run share one room: an object is small, and its calls make nothing. */
public final class RoomTest {
    private static final Check check = new Check();
    private static final long CALLS_MAY_MAKE = 20000;
    private static final long OBJECT_MAY_TAKE = 200000;

    public static void main(String[] args) {
        if (!(ManagementFactory.getThreadMXBean() instanceof com.sun.management.ThreadMXBean)) {
            System.out.println("RoomTest: the machine does not tell what is made");
            return;
        }
        com.sun.management.ThreadMXBean bean =
                (com.sun.management.ThreadMXBean) ManagementFactory.getThreadMXBean();
        long thread = Thread.currentThread().getId();
        callAll(new RootRows(), 40);

        long before = bean.getThreadAllocatedBytes(thread);
        RootRows rows = new RootRows();
        long made = bean.getThreadAllocatedBytes(thread);
        callAll(rows, 40);
        long called = bean.getThreadAllocatedBytes(thread);

        check.due("a new object takes " + (made - before), made - before <= OBJECT_MAY_TAKE, true);
        check.due("calls make " + (called - made), called - made <= CALLS_MAY_MAKE, true);
        check.finish("RoomTest");
    }

    private static long callAll(RootRows rows, int turns) {
        long sum = 0;
        for (int turn = 0; turn < turns; turn++) {
            rows.put(0, turn % 9, turn * 12345 - 200000);
            rows.operate(1, 0, 0, 0);
            rows.times(2, 1, 1);
            rows.join(3, 0, 1, 2, 3);
            sum += rows.feed(0x78202020, 0x20202020, 0x20202020, 0x20202020, 0x20202020);
            sum += rows.read(4) ? 1 : 0;
            sum += rows.operate(4, 4, 3, turn) ? 1 : 0;
            sum += rows.times(4, 4, 4) ? 1 : 0;
            for (int tray = 0; tray < 5; tray++) {
                sum += rows.count(tray, 1) + rows.root(tray, 0, 12) + rows.often(tray, 0);
                sum += rows.between(tray, -9, 9) + rows.sign(tray, turn, 3) + rows.laced(tray, tray + 1);
                sum += rows.chain(0, 7) + rows.member(tray, 2, 1) + rows.fails(tray) + rows.row(tray, turn % 5);
                sum += rows.mean(tray, true) + rows.number(tray, 2) + rows.fault();
            }
        }
        return sum;
    }
}
