/** Promise 7: what is told of the sole. */
public final class P07SoleTest {
    public static void main(String[] args) {
        sole("new", new CobblerCodes(), 1, 0, 0, 0, 0);
        sole("behind one use", Check.used(31), 1, 1, 0, 1, 1);
        sole("behind 7, 3, 7, 7", Check.used(7, 3, 7, 7), 1, 2, 2, 3, 3);
        sole("behind 1, 2, 3", Check.used(1, 2, 3), 1, 2, 2, 3, 5);
        sole("worn", worn(), 1, 2, 1, 3, 4);
        for (int what : new int[] {-1, 5, 6, Integer.MIN_VALUE, Integer.MAX_VALUE}) {
            Check.dueThrow(P07SoleTest::worn, "sole(" + what + ")", Check.INDEX, x -> x.sole(what));
        }
        Check.end();
    }

    private static CobblerCodes worn() {
        CobblerCodes x = Check.used(9, 9, 4, 4);
        x.wear();
        return x;
    }

    private static void sole(String when, CobblerCodes x, int... wants) {
        for (int what = 0; what < wants.length; what++) {
            Check.due("sole(" + what + ") " + when, x.sole(what), wants[what]);
        }
    }
}
