import java.lang.management.ManagementFactory;

/** The room: no call of an object's 512 makes an object, and an object itself is small. */
public final class RoomTest {
    private static final com.sun.management.ThreadMXBean THREADS =
        (com.sun.management.ThreadMXBean) ManagementFactory.getThreadMXBean();

    private static final int ROUNDS = 32;
    private static final CobblerCodes[] SHOPS = new CobblerCodes[17];

    public static void main(String[] args) {
        for (int k = 0; k < SHOPS.length; k++) {
            SHOPS[k] = new CobblerCodes();
        }
        // The first one's calls load what the machine needs for them.
        calls(SHOPS[0]);
        now();
        long made = -now();
        SHOPS[0] = new CobblerCodes();
        made += now();
        Check.due("an object takes " + made + " bytes, at most 6000", made <= 6000, true);
        long spent = -now();
        for (int k = 1; k < SHOPS.length; k++) {
            calls(SHOPS[k]);
        }
        spent += now();
        // Each call that made but one small array would spend more than this.
        Check.due("the calls made " + spent + " bytes, at most 8000", spent <= 8000, true);
        Check.end();
    }

    private static long now() {
        return THREADS.getThreadAllocatedBytes(Thread.currentThread().getId());
    }

    private static void calls(CobblerCodes x) {
        for (int k = 0; k < ROUNDS; k++) {
            x.setLimit(4 + k % 40);
            x.useAll(k % 32, k % 31, 40);
            if (x.count(0) > 0) {
                x.wear();
            }
            x.use(k % 32);
            x.would(k % 32, k % 29, 40);
            x.advise(k % 32, k % 29, 40);
            x.told(k % 32, 3);
            x.sole(3);
            x.node(0, 3);
            x.count(4);
            x.read(k, 30);
            x.cheapest();
            x.saved();
            x.mean();
            x.digest();
        }
    }
}
