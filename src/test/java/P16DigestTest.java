/** Promise 16: the checksum. */
public final class P16DigestTest {
    public static void main(String[] args) {
        CobblerCodes none = new CobblerCodes();
        // count(), then the sole at place 0, then 5 bits for each of the 32.
        long d = 1669;
        for (int x : new int[] {0, 1, 1, 0, 0, 0, 0, 64, 1, 32, -1, -1}) {
            d = d * 31 + x;
        }
        for (int last = 0; last < 32; last++) {
            d = d * 31 + 5;
        }
        Check.due("digest() of a new object", none.digest(), d);

        sameAsToldOneByOne("behind 7, 3, 7, 7", Check.used(7, 3, 7, 7));
        sameAsToldOneByOne("with all known", withAllKnown());
        CobblerCodes x = withAllKnown();
        x.wear();
        sameAsToldOneByOne("worn", x);
        long before = x.digest();
        Check.due("digest() again", x.digest(), before);
        x.setLimit(65);
        Check.due("digest() feels the limit", x.digest() != before, true);
        Check.end();
    }

    private static CobblerCodes withAllKnown() {
        CobblerCodes x = Check.used(7, 3, 7, 7);
        x.useAll(0, 1, 40);
        return x;
    }

    private static void sameAsToldOneByOne(String when, CobblerCodes x) {
        long d = 1669;
        for (int what = 0; what < 8; what++) {
            d = d * 31 + x.count(what);
        }
        for (int place = 0; place < x.count(1); place++) {
            for (int what = 0; what < 4; what++) {
                d = d * 31 + x.node(place, what);
            }
        }
        for (int last = 0; last < 32; last++) {
            d = d * 31 + x.told(last, 5);
        }
        Check.due("digest() " + when, x.digest(), d);
    }
}
