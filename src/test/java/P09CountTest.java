import java.util.Arrays;

/** Promise 9: what is counted. */
public final class P09CountTest {
    public static void main(String[] args) {
        CobblerCodes x = Check.used(7, 3, 7, 7);
        counts(x, "behind 7, 3, 7, 7", 2, 5, 5, 4, 13, 1, 0, 64);
        x.setLimit(6);
        x.use(3);
        // Worn at 6: 7 keeps 1, 3 keeps 1.
        counts(x, "worn by a use", 2, 5, 3, 5, 15, 2, 1, 6);
        x.wear();
        counts(x, "worn by wear()", 0, 1, 1, 5, 15, 2, 2, 6);
        x.would(0, 1, 40);
        x.advise(0, 1, 40);
        x.read(0, 30);
        counts(x, "behind calls that only ask", 0, 1, 1, 5, 15, 2, 2, 6);
        x.useAll(4, 0, 3);
        counts(x, "behind a row", 1, 3, 4, 8, 22, 3, 2, 6);
        for (int what : new int[] {-1, 8, 9, Integer.MIN_VALUE, Integer.MAX_VALUE}) {
            Check.dueThrow(() -> Check.used(7, 3, 7, 7), "count(" + what + ")", Check.INDEX, y -> y.count(what));
        }
        Check.end();
    }

    private static void counts(CobblerCodes x, String when, int... wants) {
        Check.due("count() " + when, Arrays.toString(Check.counts(x)), Arrays.toString(wants));
    }
}
