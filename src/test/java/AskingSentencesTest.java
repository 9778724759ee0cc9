import java.math.BigInteger;
import java.util.Arrays;
import java.util.TreeSet;

/** Promises 10 to 16: each sentence that names a boundary case, in the document's order, has a test of its own here. */
public final class AskingSentencesTest {
    private static final int[] LIMITS = {8, 16, 32, 64, 128};

    public static void main(String[] args) {
        p10FirstBitIsTheHighest();
        p10TheLastWhoseCodeTheyBeginWith();
        p10The5BitsBehindTheSolesCode();
        p10WhetherThisLastIsKnownOrNot();
        p10TooFewAmidACode();
        p10TooFewAmidThose5();
        p10WhatComesBehindDoesNotMatter();
        p10ByTheCodesAsTheyAreNow();
        p10ManyIsNot1To30();
        p10BitsAreLessThan0();
        p10BitsDoNotFit();
        p11TheFewestBits();
        p11OfSeveralTheSmallestNumber();
        p11Minus1WithoutOne();
        p12WhatUseAllWouldTell();
        p12NothingIsChanged();
        p13TheFewestBits();
        p13OfSeveralTheLeast();
        p13TheLimitAsItIsDoesNotMatter();
        p13NothingIsChanged();
        rowsThatAreRefused();
        p14FewerThanWith5Each();
        p14LessThan0IfMore();
        p15MeanOfTheBits();
        p15NoughtWithoutAny();
        p16StartsWith1669();
        p16WrapsAroundAsA64BitInteger();
        p16InTheOrderTold();
        Check.end();
    }

    private static void reads(String when, CobblerCodes x, String bits, int want) {
        Check.due("read() of " + bits + " " + when, x.read(Row.number(bits), bits.length()), want);
    }

    // "the bits, as a number (the first one is the highest one)"
    private static void p10FirstBitIsTheHighest() {
        reads("of the sole alone", Shops.untouched(), "10000", 116);
        reads("of the sole alone", Shops.untouched(), "00001", 101);
        CobblerCodes x = Check.used(5, 5, 9, 9, 9, 0);
        reads("with 9 at 1", x, "100", 9);
        reads("with 0 at 011", x, "011", 0);
        reads("with the sole at 010", x, "01000001", 101);
    }

    // "Returns the last whose code they begin with"
    private static void p10TheLastWhoseCodeTheyBeginWith() {
        for (CobblerCodes x : Shops.each()) {
            Row row = new Row(x);
            for (int last = 0; last < 32; last++) {
                if (row.knows(last)) {
                    reads("for " + last, x, row.codeOf(last), last);
                }
            }
        }
    }

    // "if they begin with the sole's code, 100 and the plain number in the 5 bits behind it"
    private static void p10The5BitsBehindTheSolesCode() {
        for (CobblerCodes x : Shops.each()) {
            String code = new Row(x).codeOf(32);
            for (int plain = 0; plain < 32; plain++) {
                String bits = Integer.toBinaryString(32 + plain).substring(1);
                reads("for the sole and " + plain, x, code + bits, 100 + plain);
            }
        }
    }

    // "(whether this last is known or not)"
    private static void p10WhetherThisLastIsKnownOrNot() {
        CobblerCodes x = Check.used(17);
        reads("for 17, that is known", x, new Row(x).codeOf(32) + "10001", 117);
        reads("for 16, that is not", x, new Row(x).codeOf(32) + "10000", 116);
        CobblerCodes full = Shops.full();
        reads("for 31, with all known", full, new Row(full).codeOf(32) + "11111", 131);
    }

    // "-1, if there are too few bits (amid a code"
    private static void p10TooFewAmidACode() {
        for (CobblerCodes x : Shops.each()) {
            Row row = new Row(x);
            for (int last = 0; last <= 32; last++) {
                if (row.knows(last)) {
                    String code = row.codeOf(last);
                    for (int many = 1; many < code.length(); many++) {
                        reads("amid the code of " + last, x, code.substring(0, many), -1);
                    }
                }
            }
        }
    }

    // "or amid those 5)"
    private static void p10TooFewAmidThose5() {
        for (CobblerCodes x : Shops.each()) {
            String code = new Row(x).codeOf(32);
            for (int few = 0; few < 5; few++) {
                String bits = code + "11111".substring(0, few);
                if (!bits.isEmpty()) {
                    reads("with " + few + " of the 5", x, bits, -1);
                }
            }
        }
    }

    // "what comes behind does not matter."
    private static void p10WhatComesBehindDoesNotMatter() {
        for (Check.Maker maker : Shops.MAKERS) {
            Row row = new Row(maker.make());
            for (int last = 0; last <= 32; last++) {
                if (row.knows(last)) {
                    CobblerCodes x = maker.make();
                    String bits = row.codeOf(last) + (last == 32 ? "01101" : "");
                    for (int more = 0; bits.length() + more <= 30; more++) {
                        reads("and zeros", x, bits + "0".repeat(more), last == 32 ? 113 : last);
                        reads("and ones", x, bits + "1".repeat(more), last == 32 ? 113 : last);
                    }
                }
            }
        }
    }

    // "Reads one last by the codes as they are now.": not by the codes by lengths, nor by those of before
    private static void p10ByTheCodesAsTheyAreNow() {
        CobblerCodes x = Check.used(7);
        reads("with 7 at 1", x, "1", 7);
        x.use(7);
        reads("with 7 at 0", x, "0", 7);
        reads("with the sole at 1", x, "100111", 107);
        x.wear();
        x.wear();
        reads("with the sole alone", x, "00111", 107);
        Check.due("count(3), as reading is no use", x.count(3), 2);
    }

    private static void refusesRead(int bits, int many) {
        for (Check.Maker maker : new Check.Maker[] {Shops::untouched, Shops::full, Shops::chain}) {
            Check.dueThrow(maker, "read(" + bits + ", " + many + ")", Check.ARGUMENT, x -> x.read(bits, many));
        }
    }

    // "Throws `IllegalArgumentException` if many is not 1 to 30"
    private static void p10ManyIsNot1To30() {
        for (int bits : new int[] {0, 1, -1, Integer.MAX_VALUE}) {
            for (int many : new int[] {0, 31, -1, 32, 33, 62, 63}) {
                refusesRead(bits, many);
            }
            for (int many : Shops.FAR) {
                refusesRead(bits, many);
            }
        }
        Check.due("read(0, 1) throws nothing", Shops.untouched().read(0, 1), -1);
        Check.due("read(0, 30) throws nothing", Shops.untouched().read(0, 30), 100);
    }

    // "or bits is less than 0"
    private static void p10BitsAreLessThan0() {
        for (int many : new int[] {1, 2, 5, 29, 30}) {
            refusesRead(-1, many);
            refusesRead(-(1 << many - 1), many);
            refusesRead(Integer.MIN_VALUE, many);
            refusesRead(Integer.MIN_VALUE + 1, many);
            Check.due("read(0, " + many + ") throws nothing", Shops.untouched().read(0, many), many < 5 ? -1 : 100);
        }
    }

    // "or does not fit into so many"
    private static void p10BitsDoNotFit() {
        for (int many = 1; many <= 30; many++) {
            int greatest = (1 << many) - 1;
            Check.due("read(" + greatest + ", " + many + ") throws nothing", Shops.untouched().read(greatest, many),
                many < 5 ? -1 : 131);
            refusesRead(greatest + 1, many);
            refusesRead(Integer.MAX_VALUE, many);
        }
    }

    // "Returns the known last that would take the fewest bits"
    private static void p11TheFewestBits() {
        Check.due("cheapest() of one alone", Shops.withOne().cheapest(), 17);
        Check.due("cheapest() of a chain", Shops.chain().cheapest(), 10);
        // 31 takes 1 bit, 0 and the sole 2; each other one would take 7.
        Check.due("cheapest() of 0 and 31", Check.used(31, 31, 31, 0).cheapest(), 31);
        Check.due("cheapest() of 31 and 0", Check.used(0, 0, 0, 31).cheapest(), 0);
    }

    // "of several the one with the smallest number"
    private static void p11OfSeveralTheSmallestNumber() {
        Check.due("cheapest() of 30, 1, 2 as long", Check.used(30, 1, 2).cheapest(), 1);
        Check.due("cheapest() of 2, 30, 0 as long", Check.used(2, 30, 0).cheapest(), 0);
        for (CobblerCodes x : Shops.each()) {
            int best = -1;
            for (int last = 31; last >= 0; last--) {
                if (x.told(last, 1) >= 0 && (best < 0 || x.told(last, 1) <= x.told(best, 1))) {
                    best = last;
                }
            }
            Check.due("cheapest()", x.cheapest(), best);
        }
    }

    // "-1 without one."
    private static void p11Minus1WithoutOne() {
        Check.due("cheapest() of a new object", Shops.untouched().cheapest(), -1);
        Check.due("cheapest() with all forgotten", Shops.emptied().cheapest(), -1);
        CobblerCodes full = Shops.full();
        full.wear();
        Check.due("cheapest() with all 32 forgotten", full.cheapest(), -1);
    }

    // "Returns what useAll() would tell"
    private static void p12WhatUseAllWouldTell() {
        int states = Shops.each().length;
        int[][] rows = {{0, 0, 1}, {31, 31, 40}, {31, 0, 40}, {0, 31, 1}, {0, 1, 32}, {0, 1, 33}, {16, 16, 40}};
        for (int state = 0; state < states; state++) {
            for (int[] r : rows) {
                for (int limit : new int[] {4, 5, 33, 64, 400}) {
                    CobblerCodes x = Shops.each()[state];
                    x.setLimit(limit);
                    int would = x.would(r[0], r[1], r[2]);
                    Check.due("would() in the state " + state, would, x.useAll(r[0], r[1], r[2]));
                }
            }
        }
    }

    // "(nothing is changed)."
    private static void p12NothingIsChanged() {
        for (Check.Maker maker : Shops.MAKERS) {
            Check.dueUnchanged(() -> atLimit4(maker), "would()", x -> {
                int would = x.would(0, 1, 40);
                x.would(5, 5, 40);
                Check.due("would() again", x.would(0, 1, 40), would);
            });
        }
    }

    private static CobblerCodes atLimit4(Check.Maker maker) {
        CobblerCodes x = maker.make();
        x.setLimit(4);
        return x;
    }

    private static int[] bitsAtLimits(int state, int from, int step, int many) {
        int[] bits = new int[LIMITS.length];
        for (int k = 0; k < LIMITS.length; k++) {
            CobblerCodes x = Shops.each()[state];
            x.setLimit(LIMITS[k]);
            bits[k] = x.useAll(from, step, many);
        }
        return bits;
    }

    // "Looks for the limit, of 8, 16, 32, 64 and 128, that had best be set now, so that useAll() takes the fewest bits then."
    private static void p13TheFewestBits() {
        TreeSet<Integer> answers = new TreeSet<>();
        int states = Shops.each().length;
        for (int state = 0; state < states; state++) {
            for (int step = 0; step < 32; step++) {
                int[] bits = bitsAtLimits(state, 31 - step, step, 40);
                int best = 0;
                for (int k = 1; k < bits.length; k++) {
                    best = bits[k] < bits[best] ? k : best;
                }
                int advised = Shops.each()[state].advise(31 - step, step, 40);
                Check.due("advise() in the state " + state + ", step " + step, advised, LIMITS[best]);
                answers.add(advised);
            }
        }
        Check.due("8 and 128 are advised, and nothing beyond", answers.first() + " " + answers.last(), "8 128");
    }

    // "of several the least"
    private static void p13OfSeveralTheLeast() {
        // One use takes the same bits at each limit, as it is asked behind it.
        for (CobblerCodes x : Shops.each()) {
            Check.due("advise(9, 0, 1)", x.advise(9, 0, 1), 8);
        }
        int tiesBehind8 = 0;
        int states = Shops.each().length;
        for (int state = 0; state < states; state++) {
            for (int many = 2; many <= 40; many++) {
                int[] bits = bitsAtLimits(state, 3, 7, many);
                int advised = Shops.each()[state].advise(3, 7, many);
                for (int k = 0; k < LIMITS.length; k++) {
                    boolean ahead = LIMITS[k] < advised;
                    int fewest = bits[Arrays.binarySearch(LIMITS, advised)];
                    Check.due("bits at " + LIMITS[k] + " beside " + advised, ahead ? bits[k] > fewest : bits[k] >= fewest, true);
                    tiesBehind8 += advised > 8 && LIMITS[k] > advised && bits[k] == fewest ? 1 : 0;
                }
            }
        }
        Check.due("there were several that were best, without 8", tiesBehind8 > 0, true);
    }

    // "that had best be set now": whatever the limit is that is set yet
    private static void p13TheLimitAsItIsDoesNotMatter() {
        for (CobblerCodes x : Shops.each()) {
            int advised = x.advise(4, 9, 40);
            for (int limit : new int[] {4, 8, 9, 128, 400}) {
                x.setLimit(limit);
                Check.due("advise() at the limit " + limit, x.advise(4, 9, 40), advised);
            }
        }
    }

    // "(nothing is changed)."
    private static void p13NothingIsChanged() {
        for (Check.Maker maker : Shops.MAKERS) {
            Check.dueUnchanged(maker, "advise()", x -> {
                int would = x.would(1, 1, 40);
                int advised = x.advise(0, 1, 40);
                x.advise(7, 0, 40);
                Check.due("would() behind advise()", x.would(1, 1, 40), would);
                Check.due("advise() again", x.advise(0, 1, 40), advised);
            });
        }
    }

    private static void refusesRow(int from, int step, int many, Class<?> type) {
        String row = "(" + from + ", " + step + ", " + many + ")";
        Check.dueThrow(() -> Check.used(8, 9, 9), "would" + row, type, x -> x.would(from, step, many));
        Check.dueThrow(() -> Check.used(8, 9, 9), "advise" + row, type, x -> x.advise(from, step, many));
    }

    private static void takesRow(int from, int step, int many) {
        CobblerCodes x = Check.used(8, 9, 9);
        Check.due("would() throws nothing", x.would(from, step, many) >= many, true);
        Check.due("advise() throws nothing", x.advise(from, step, many) >= 8, true);
    }

    // Promises 12 and 13: "Throws `IndexOutOfBoundsException` if from is not 0 to 31"
    // and "Throws `IllegalArgumentException` if step is not 0 to 31, or many is not 1 to 40"
    private static void rowsThatAreRefused() {
        takesRow(0, 0, 1);
        takesRow(31, 31, 40);
        refusesRow(-1, 1, 5, Check.INDEX);
        refusesRow(32, 1, 5, Check.INDEX);
        refusesRow(3, -1, 5, Check.ARGUMENT);
        refusesRow(3, 32, 5, Check.ARGUMENT);
        refusesRow(3, 1, 0, Check.ARGUMENT);
        refusesRow(3, 1, -1, Check.ARGUMENT);
        refusesRow(3, 1, 41, Check.ARGUMENT);
        for (int far : Shops.FAR) {
            refusesRow(far, 1, 5, Check.INDEX);
            refusesRow(3, far, 5, Check.ARGUMENT);
            refusesRow(3, 1, far, Check.ARGUMENT);
        }
    }

    // "Returns how many bits fewer all uses took than with 5 each"
    private static void p14FewerThanWith5Each() {
        Check.due("saved() without uses", Shops.untouched().saved(), 0);
        Check.due("saved() of 5 bits", Shops.withOne().saved(), 0);
        Check.due("saved() of 5 + 39 bits", savedBy(9, 0, 40), 200 - 44);
        for (CobblerCodes x : Shops.each()) {
            Check.due("saved()", x.saved(), 5 * x.count(3) - x.count(4));
        }
    }

    private static int savedBy(int from, int step, int many) {
        CobblerCodes x = new CobblerCodes();
        x.useAll(from, step, many);
        return x.saved();
    }

    // "(less than 0, if more)."
    private static void p14LessThan0IfMore() {
        Check.due("saved() of 5 + 6 bits", savedBy(0, 1, 2), -1);
        Check.due("saved() of 5 + 6 + 7 bits", savedBy(0, 1, 3), -3);
        CobblerCodes x = new CobblerCodes();
        x.setLimit(4);
        // All are forgotten behind each third use.
        x.useAll(0, 1, 39);
        Check.due("saved() of 13 times 5 + 6 + 7 bits", x.saved(), -39);
    }

    // "Returns the mean of how many bits uses took"
    private static void p15MeanOfTheBits() {
        Check.due("mean() of 5", Shops.withOne().mean(), 5.0);
        Check.due("mean() of 5, 6", Check.used(0, 31).mean(), 5.5);
        Check.due("mean() of 5, 1, 1", Check.used(4, 4, 4).mean(), 7 / 3.0);
        CobblerCodes x = new CobblerCodes();
        x.useAll(9, 0, 40);
        Check.due("mean() of a row of 40", x.mean(), 44 / 40.0);
        for (CobblerCodes y : Shops.each()) {
            if (y.count(3) > 0) {
                Check.due("mean()", y.mean(), y.count(4) / (double) y.count(3));
            }
        }
    }

    // "0 without any."
    private static void p15NoughtWithoutAny() {
        CobblerCodes x = Shops.untouched();
        Check.due("mean() of a new object", x.mean(), 0.0);
        x.setLimit(4);
        x.would(0, 1, 40);
        x.advise(0, 1, 40);
        Check.outcome(x, y -> y.use(-1));
        Check.outcome(x, y -> y.useAll(0, 0, 0));
        Check.outcome(x, CobblerCodes::wear);
        Check.due("mean() behind what is no use", x.mean(), 0.0);
        Check.due("mean() with all forgotten, but uses", Shops.emptied().mean(), 12 / 3.0);
    }

    // "A number d starts with 1669"
    private static void p16StartsWith1669() {
        BigInteger start = Shops.endlessDigest(Shops.untouched());
        // 8 counts, 4 facts of the one node and 32 bits of lasts are added to it, each behind one more factor of 31.
        Check.due("1669 in the checksum of a new object", start.divide(BigInteger.valueOf(31).pow(44)).intValue(), 1669);
        Check.due("digest() of a new object", Shops.untouched().digest(), start.longValue());
    }

    // "d becomes d * 31 + x, which wraps around as a 64-bit integer"
    private static void p16WrapsAroundAsA64BitInteger() {
        boolean below = false;
        boolean above = false;
        for (CobblerCodes x : Shops.each()) {
            BigInteger endless = Shops.endlessDigest(x);
            Check.due("the checksum is past 64 bits", endless.bitLength() > 64, true);
            Check.due("digest(), the low 64 bits", x.digest(), endless.longValue());
            below |= x.digest() < 0;
            above |= x.digest() > Integer.MAX_VALUE;
        }
        Check.due("digests less than 0, and beyond 32 bits", below && above, true);
    }

    // "what count() tells, in its order; for each place of the row what node() tells; for each last how many bits .."
    private static void p16InTheOrderTold() {
        CobblerCodes x = new CobblerCodes();
        CobblerCodes y = new CobblerCodes();
        // The limit stands 36 numbers ahead of the end, with one node.
        y.setLimit(65);
        long step = 1;
        for (int k = 0; k < 36; k++) {
            step *= 31;
        }
        Check.due("digest() with a limit of 1 more", y.digest() - x.digest(), step);
        Check.due("digest() of 5, 5, 9", Check.used(5, 5, 9).digest(), Shops.endlessDigest(Check.used(5, 5, 9)).longValue());
        Check.due("digest() changes nothing", x.digest(), new CobblerCodes().digest());
    }
}
