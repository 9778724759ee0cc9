/** Promise 4: the limit, asked behind the next use. */
public final class P04SetLimitTest {
    public static void main(String[] args) {
        CobblerCodes x = Check.used(1, 1, 1, 1, 1);
        Check.due("setLimit(4)", x.setLimit(4), 64);
        Check.due("count(7)", x.count(7), 4);
        Check.due("count(2), nothing worn yet", x.count(2), 6);
        Check.due("count(6), nothing worn yet", x.count(6), 0);
        Check.due("setLimit(400)", x.setLimit(400), 4);
        x.use(1);
        Check.due("count(6) at limit 400", x.count(6), 0);
        Check.due("setLimit(7)", x.setLimit(7), 400);
        x.use(1);
        Check.due("count(6) at limit 7", x.count(6), 1);
        Check.due("setLimit(7) again", x.setLimit(7), 7);
        for (int limit : new int[] {3, 401, 0, -1, -64, Integer.MIN_VALUE, Integer.MAX_VALUE}) {
            Check.dueThrow(P04SetLimitTest::withLimit7, "setLimit(" + limit + ")", Check.ARGUMENT, y -> y.setLimit(limit));
        }
        reachesTheGreatestLimit();
        Check.end();
    }

    private static CobblerCodes withLimit7() {
        CobblerCodes x = Check.used(1, 1, 1, 1, 1);
        x.setLimit(7);
        return x;
    }

    private static void reachesTheGreatestLimit() {
        CobblerCodes x = new CobblerCodes();
        x.setLimit(400);
        for (int k = 0; k < 398; k++) {
            x.use(k % 2);
        }
        Check.due("count(2) behind 398 uses", x.count(2), 399);
        Check.due("count(6) behind 398 uses", x.count(6), 0);
        x.use(0);
        Check.due("count(2) behind 399 uses", x.count(2), 1 + 100 + 99);
        Check.due("count(6) behind 399 uses", x.count(6), 1);
    }
}
