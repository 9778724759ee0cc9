import java.math.BigInteger;

/** Shops in the states that the sentences' tests ask about, made by a few calls each, and their checksum. */
final class Shops {
    static final int[] FAR = {Integer.MIN_VALUE, Integer.MIN_VALUE + 1, -65536, -401, -256, -64, -33, -32, 64, 96, 256, 1024,
        65536, 1 << 30, Integer.MAX_VALUE - 1, Integer.MAX_VALUE};
    static final Check.Maker[] MAKERS = {Shops::untouched, Shops::emptied, Shops::withOne,
        () -> Check.used(9, 9, 4, 4, 4, 30), Shops::full, Shops::fullAndUneven, Shops::fullAndWorn, Shops::chain};
    private static final int[] CHAIN = {1, 2, 3, 5, 8, 13, 21, 34, 55, 89, 144};

    private Shops() {
    }

    /** The sole alone, as there was never a last. */
    static CobblerCodes untouched() {
        return new CobblerCodes();
    }

    /** The sole alone, as all lasts are forgotten. */
    static CobblerCodes emptied() {
        CobblerCodes x = Check.used(3, 8, 3);
        x.wear();
        x.wear();
        return x;
    }

    /** One last of 32 is known, with the weight 1. */
    static CobblerCodes withOne() {
        return Check.used(17);
    }

    /** All 32 lasts are known, each with the weight 1. */
    static CobblerCodes full() {
        CobblerCodes x = new CobblerCodes();
        x.useAll(0, 1, 32);
        return x;
    }

    /** All 32 lasts are known, with weights from 1 to 8, behind a limit that was never met. */
    static CobblerCodes fullAndUneven() {
        CobblerCodes x = new CobblerCodes();
        x.setLimit(400);
        for (int round = 0; round < 8; round++) {
            x.useAll(31, 31, 32 - 4 * round);
        }
        return x;
    }

    /** All 32 lasts are known, in a tree that was built anew. */
    static CobblerCodes fullAndWorn() {
        CobblerCodes x = fullAndUneven();
        x.useAll(0, 1, 32);
        x.wear();
        return x;
    }

    /** Each weight is that of the two lighter ones together, so each code is one bit longer than the next one. */
    static CobblerCodes chain() {
        CobblerCodes x = new CobblerCodes();
        x.setLimit(400);
        for (int last = 0; last < CHAIN.length; last++) {
            for (int left = CHAIN[last]; left > 0; left -= 40) {
                x.useAll(last, 0, Math.min(left, 40));
            }
        }
        return x;
    }

    static CobblerCodes[] each() {
        CobblerCodes[] each = new CobblerCodes[MAKERS.length];
        for (int k = 0; k < each.length; k++) {
            each[k] = MAKERS[k].make();
        }
        return each;
    }

    /** The checksum without any bound, by what the other calls tell; its low 64 bits are the digest. */
    static BigInteger endlessDigest(CobblerCodes x) {
        BigInteger d = BigInteger.valueOf(1669);
        for (int what = 0; what < 8; what++) {
            d = further(d, x.count(what));
        }
        int places = x.count(1);
        for (int place = 0; place < places; place++) {
            for (int what = 0; what < 4; what++) {
                d = further(d, x.node(place, what));
            }
        }
        for (int last = 0; last < 32; last++) {
            d = further(d, x.told(last, 5));
        }
        return d;
    }

    private static BigInteger further(BigInteger d, int x) {
        return d.multiply(BigInteger.valueOf(31)).add(BigInteger.valueOf(x));
    }
}
