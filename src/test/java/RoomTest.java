import java.lang.management.ManagementFactory;

/** All rows are made by the constructor: no call makes an object or an array. */
public final class RoomTest {
    private static final int CALLS = 512;

    public static void main(String[] args) {
        com.sun.management.ThreadMXBean room = (com.sun.management.ThreadMXBean) ManagementFactory.getThreadMXBean();
        long thread = Thread.currentThread().getId();
        long before = 0;
        long sum = 0;
        PeriodGates x = null;
        // The first round only loads what the machine itself needs.
        for (int round = 0; round < 2; round++) {
            x = new PeriodGates();
            before = room.getThreadAllocatedBytes(thread);
            sum += use(x);
        }
        long made = room.getThreadAllocatedBytes(thread) - before;
        Check.holds("512 calls made " + made + " bytes, some hundred of them the measure's own", made < 1000);
        Check.holds("something was answered", sum != 0);
        Check.end("RoomTest");
    }

    private static long use(PeriodGates x) {
        long sum = 0;
        for (int k = 0; k < CALLS / 8; k++) {
            sum += x.edge(k * 91 % 6000);
            sum += x.cut(1 + k % 59);
            sum += x.sweep(7, 6);
            sum += x.gate(k, 50 * k + 1);
            sum += x.type(k);
            sum += x.sheet(k % 4, 3, k % 41);
            sum += x.write(k % 4) + x.copy(0, 0, 1, 0, 1) + x.found(0, 1);
            sum += x.digest();
        }
        return sum;
    }
}
