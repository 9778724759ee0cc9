/** Promise 1: a new object knows no last. */
public final class P01NewObjectTest {
    public static void main(String[] args) {
        CobblerCodes x = new CobblerCodes();
        int[] counts = {0, 1, 1, 0, 0, 0, 0, 64};
        for (int what = 0; what < 8; what++) {
            Check.due("count(" + what + ") of a new object", x.count(what), counts[what]);
        }
        Check.due("the row of a new object", Check.row(x), "1:S");
        for (int last = 0; last < 32; last++) {
            for (int what = 0; what < 5; what++) {
                Check.due("told(" + last + ", " + what + ") of a new object", x.told(last, what), -1);
            }
            Check.due("told(" + last + ", 5) of a new object", x.told(last, 5), 5);
        }
        Check.due("cheapest() of a new object", x.cheapest(), -1);
        Check.due("saved() of a new object", x.saved(), 0);
        Check.due("mean() of a new object", x.mean(), 0.0);
        eachObjectStandsAlone();
        Check.end();
    }

    private static void eachObjectStandsAlone() {
        CobblerCodes one = new CobblerCodes();
        String fresh = Check.all(one);
        CobblerCodes other = Check.used(1, 2, 3, 3);
        other.setLimit(10);
        other.wear();
        other.advise(0, 1, 40);
        Check.due("an object behind another one's calls", Check.all(one), fresh);
        Check.due("an object made behind another one's calls", Check.all(new CobblerCodes()), fresh);
    }
}
