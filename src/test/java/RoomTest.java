import java.lang.management.ManagementFactory;

/** The room: 512 of the dearest calls make no object, and an object itself is small. */
public final class RoomTest {
    private static final com.sun.management.ThreadMXBean THREADS =
        (com.sun.management.ThreadMXBean) ManagementFactory.getThreadMXBean();

    private static CobblerCodes x;

    public static void main(String[] args) {
        x = new CobblerCodes();
        calls(20);
        long made = -now();
        x = new CobblerCodes();
        made += now();
        Check.due("an object takes " + made + " bytes, at most 6000", made <= 6000, true);
        long spent = -now();
        calls(500);
        spent += now();
        // Each call that made but one small array would spend more than this.
        Check.due("the calls made " + spent + " bytes, at most 8000", spent <= 8000, true);
        Check.end();
    }

    private static long now() {
        return THREADS.getThreadAllocatedBytes(Thread.currentThread().getId());
    }

    private static void calls(int rounds) {
        for (int k = 0; k < rounds; k++) {
            x.setLimit(4 + k % 40);
            x.useAll(k % 32, k % 31, 40);
            if (x.count(0) > 0) {
                x.wear();
            }
            x.use(k % 32);
            x.would(k % 32, k % 29, 40);
            x.advise(k % 32, k % 29, 40);
            x.told(k % 32, 3);
            x.sole(3);
            x.node(0, 3);
            x.count(4);
            x.read(k, 30);
            x.cheapest();
            x.saved();
            x.mean();
            x.digest();
        }
    }
}
