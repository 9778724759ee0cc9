/** Each sentence of 'Wearing', 'Codes by lengths' and on exceptions that names a boundary case has a test of its own here. */
public final class WearingSentencesTest {
    public static void main(String[] args) {
        keepsHalfOfTheWeight();
        forgetsThoseThatHave0();
        forgetsAllBehindAUse();
        theSoleHas1();
        heapBeginsWithTheSole();
        heapGoesByNumbers();
        takesTheFirstOfSeveral();
        putsTheFirstTakenToTheEnd();
        aNewForkComesToTheEndOfTheHeap();
        theLastOneLeftIsTheRoot();
        codesInTheOrderOfLengths();
        codesAsLongInTheOrderOfNumbers();
        theFirstCodeHasOnlyZeros();
        eachFurtherCodeIsTheNextNumber();
        whatThrowsChangesNothing();
        theExceptionNamedFirstIsThrown();
        Check.end();
    }

    private static void rows(String when, CobblerCodes x, String want) {
        Check.due("the row " + when, Check.row(x), want);
    }

    // "each known last keeps half (cut) of the weight of its leaf"
    private static void keepsHalfOfTheWeight() {
        CobblerCodes x = Shops.fullAndUneven();
        int[] weights = new int[32];
        for (int last = 0; last < 32; last++) {
            weights[last] = x.told(last, 0);
        }
        x.wear();
        for (int last = 0; last < 32; last++) {
            Check.due("half of " + weights[last], x.told(last, 0), weights[last] < 2 ? -1 : weights[last] / 2);
        }
    }

    // "those that have 0 so are forgotten"
    private static void forgetsThoseThatHave0() {
        CobblerCodes x = Check.used(0, 31, 31, 15, 16, 16, 16);
        Check.due("wear() with 0 and 15 at 1", x.wear(), 2);
        for (int what = 0; what < 5; what++) {
            Check.due("told(0, " + what + ")", x.told(0, what), -1);
            Check.due("told(15, " + what + ")", x.told(15, what), -1);
        }
        Check.due("told(0, 5) as that of one never used", x.told(0, 5), x.told(1, 5));
        Check.due("told(31, 0), of 2", x.told(31, 0), 1);
        Check.due("told(16, 0), of 3", x.told(16, 0), 1);
        Check.due("count(0)", x.count(0), 2);
        Check.due("count(1)", x.count(1), 5);
    }

    // the same behind a use: the last that was used is forgotten as well
    private static void forgetsAllBehindAUse() {
        CobblerCodes x = new CobblerCodes();
        x.setLimit(4);
        x.use(0);
        x.use(31);
        Check.due("count(0) at 3", x.count(0), 2);
        Check.due("use(7), that makes it 4", x.use(7), 7);
        rows("with all forgotten", x, "1:S");
        Check.due("cheapest() with all forgotten", x.cheapest(), -1);
        Check.due("wear() with all forgotten", Check.outcome(x, CobblerCodes::wear), "throws.IllegalStateException");
        CobblerCodes y = new CobblerCodes();
        y.setLimit(33);
        y.useAll(0, 1, 31);
        Check.due("count(0) at 32 of 33", y.count(0), 31);
        y.use(31);
        Check.due("count(0) at 33 of 33", y.count(0), 0);
        CobblerCodes z = new CobblerCodes();
        z.setLimit(34);
        z.useAll(0, 1, 32);
        Check.due("count(0) at 33 of 34", z.count(0), 32);
    }

    // "the sole has 1."
    private static void theSoleHas1() {
        CobblerCodes x = Check.used(4, 4);
        for (int k = 0; k < 2; k++) {
            x.wear();
            Check.due("sole(0) worn " + k, x.sole(0), 1);
        }
        rows("of the sole alone", x, "1:S");
    }

    // "first the leaf of the sole": of the same weight as lasts, it is taken first, and so comes last
    private static void heapBeginsWithTheSole() {
        CobblerCodes x = Check.used(0, 0);
        x.wear();
        rows("of 0 and the sole", x, "2:/1 1:0 1:S");
        CobblerCodes y = Check.used(0, 0, 1, 1, 2, 2);
        y.wear();
        rows("of 0, 1, 2 and the sole", y, "4:/1 2:/3 2:/5 1:2 1:1 1:0 1:S");
    }

    // "then those of the lasts that are known still, by their numbers", not by their places or first uses
    private static void heapGoesByNumbers() {
        CobblerCodes x = Check.used(31, 31, 16, 16, 0, 0);
        x.wear();
        rows("of 0, 16, 31 and the sole", x, "4:/1 2:/3 2:/5 1:31 1:16 1:0 1:S");
        CobblerCodes y = Check.used(16, 0, 31, 0, 31, 16);
        y.wear();
        Check.due("the same lasts in another order", Check.row(y), Check.row(x));
    }

    // "the one with the least weight is taken out, of several the first one; then of those that are left another one"
    private static void takesTheFirstOfSeveral() {
        CobblerCodes x = Check.used(3, 3, 3, 3, 8, 8, 8, 8, 12, 12, 12, 12);
        x.wear();
        // The sole 1, then 3, 8 and 12 with 2 each: S and 3 make 3; 8 and 12 make 4; the forks 3 and 4 make 7.
        rows("of 2, 2, 2 and the sole", x, "7:/1 4:/3 3:/5 2:12 2:8 2:3 1:S");
    }

    // "the one taken first comes to the last place that is free, the other one to the place ahead of that; and a new fork,
    // with the other one as its first part and the one taken first as its second one"
    private static void putsTheFirstTakenToTheEnd() {
        CobblerCodes x = Check.used(20, 20, 20, 20, 21, 21);
        x.wear();
        rows("of 20, 21 and the sole", x, "4:/1 2:/3 2:20 1:21 1:S");
        Check.due("sole(4), taken first", x.sole(4), 4);
        Check.due("sole(2), the second part", x.sole(1) * 100 + x.sole(2), 201);
        Check.due("told(21, 2), the first part", x.told(21, 1) * 100 + x.told(21, 2), 200);
    }

    // "comes to the end of the heap": a leaf as heavy is taken ahead of the fork
    private static void aNewForkComesToTheEndOfTheHeap() {
        CobblerCodes x = Check.used(20, 20, 20, 20, 21, 21);
        x.wear();
        Check.due("told(20, 4), taken ahead of the fork", x.told(20, 4), 2);
        Check.due("node(1, 1), the fork", x.node(1, 1), -1);
        Check.due("told(20, 2), the second part", x.told(20, 1) * 100 + x.told(20, 2), 101);
    }

    // "As long as there are several nodes in it .. The last one that is left is the root."
    private static void theLastOneLeftIsTheRoot() {
        for (CobblerCodes x : Shops.each()) {
            if (x.count(0) > 0) {
                x.wear();
            }
            Check.due("node(0, 2)", x.node(0, 2), -1);
            Check.due("node(0, 3)", x.node(0, 3), x.count(0) == 0 ? -1 : 1);
            Check.due("node(0, 1)", x.node(0, 1), x.count(0) == 0 ? 32 : -1);
            int kept = 1;
            for (int last = 0; last < 32; last++) {
                kept += x.told(last, 0) < 0 ? 0 : x.told(last, 0);
            }
            Check.due("node(0, 0)", x.node(0, 0), kept);
        }
        Check.due("count(1) of a worn tree with all 32", Shops.fullAndWorn().count(1), 65);
    }

    /** What is told of each last, and behind them of the sole. */
    private static int[] ofAll(CobblerCodes x, int what) {
        int[] all = new int[33];
        for (int last = 0; last < 32; last++) {
            all[last] = x.told(last, what);
        }
        all[32] = x.sole(what);
        return all;
    }

    // "in the order of these lengths": put to the same length, a shorter code is the lower number
    private static void codesInTheOrderOfLengths() {
        for (CobblerCodes x : Shops.each()) {
            int[] lengths = ofAll(x, 1);
            int[] codes = ofAll(x, 3);
            for (int one = 0; one <= 32; one++) {
                for (int other = 0; other <= 32; other++) {
                    int more = lengths[other] - lengths[one];
                    if (lengths[one] >= 0 && more > 0) {
                        Check.due(one + " begins no code of " + other + " and is ahead", codes[one] < codes[other] >> more, true);
                    }
                }
            }
        }
    }

    // "those as long in the order of their numbers (the sole is 32)"
    private static void codesAsLongInTheOrderOfNumbers() {
        CobblerCodes x = Check.used(30, 1, 2);
        int[] lasts = {1, 2, 30};
        for (int k = 0; k < 3; k++) {
            Check.due("told(" + lasts[k] + ", 3)", x.told(lasts[k], 3), k);
        }
        Check.due("sole(3), behind all as long", x.sole(3), 3);
        CobblerCodes y = Check.used(31);
        Check.due("told(31, 3) ahead of the sole", y.told(31, 3), 0);
        Check.due("sole(3) behind 31", y.sole(3), 1);
    }

    // "the first one has only zeros"
    private static void theFirstCodeHasOnlyZeros() {
        Check.due("sole(3), the only one", Shops.untouched().sole(3), 0);
        Check.due("told(17, 3)", Shops.withOne().told(17, 3), 0);
        Check.due("told(10, 3), the heaviest of a chain", Shops.chain().told(10, 3), 0);
        CobblerCodes full = Shops.full();
        Check.due("told(cheapest, 3) of all 32", full.told(full.cheapest(), 3), 0);
    }

    // "each further one the next number, with as many zeros added as its length is more than that of the one before."
    private static void eachFurtherCodeIsTheNextNumber() {
        CobblerCodes x = Shops.chain();
        for (int last = 9; last >= 0; last--) {
            int length = 11 - last;
            Check.due("told(" + last + ", 3) of a chain", x.told(last, 3), (1 << length) - 2);
        }
        Check.due("sole(3) of a chain", x.sole(3), (1 << 11) - 1);
        for (CobblerCodes y : Shops.each()) {
            countsUp(y);
        }
        CobblerCodes jump = Check.used(5, 5, 5, 5, 5, 5, 5, 5, 1, 2, 3);
        // 5 has 1 bit, no one has 2, all others have 3: 0, then 100 to 111.
        int[] lasts = {5, 1, 2, 3};
        int[] codes = {0, 4, 5, 6};
        for (int k = 0; k < 4; k++) {
            Check.due("told(" + lasts[k] + ", 3) behind a jump", jump.told(lasts[k], 3), codes[k]);
        }
        Check.due("sole(3) behind a jump", jump.sole(1) * 100 + jump.sole(3), 307);
    }

    private static void countsUp(CobblerCodes x) {
        int[] lengths = ofAll(x, 1);
        int[] codes = ofAll(x, 3);
        int code = -1;
        int before = 0;
        for (int length = 0; length <= 32; length++) {
            for (int last = 0; last <= 32; last++) {
                if (lengths[last] == length) {
                    code = code < 0 ? 0 : code + 1 << length - before;
                    before = length;
                    Check.due("the code by lengths of " + last, codes[last], code);
                }
            }
        }
    }

    // "A method that throws an exception changes nothing."
    private static void whatThrowsChangesNothing() {
        for (Check.Maker maker : Shops.MAKERS) {
            Check.dueThrow(maker, "use(32)", Check.INDEX, x -> x.use(32));
            Check.dueThrow(maker, "useAll(0, 1, 41)", Check.ARGUMENT, x -> x.useAll(0, 1, 41));
            Check.dueThrow(maker, "useAll(32, 1, 40)", Check.INDEX, x -> x.useAll(32, 1, 40));
            Check.dueThrow(maker, "setLimit(3)", Check.ARGUMENT, x -> x.setLimit(3));
            Check.dueThrow(maker, "setLimit(401)", Check.ARGUMENT, x -> x.setLimit(401));
            Check.dueThrow(maker, "told(0, 6)", Check.INDEX, x -> x.told(0, 6));
            Check.dueThrow(maker, "sole(5)", Check.INDEX, x -> x.sole(5));
            Check.dueThrow(maker, "node(0, 4)", Check.INDEX, x -> x.node(0, 4));
            Check.dueThrow(maker, "count(8)", Check.INDEX, x -> x.count(8));
            Check.dueThrow(maker, "read(2, 1)", Check.ARGUMENT, x -> x.read(2, 1));
            Check.dueThrow(maker, "would(0, 32, 40)", Check.ARGUMENT, x -> x.would(0, 32, 40));
            Check.dueThrow(maker, "advise(0, 1, 0)", Check.ARGUMENT, x -> x.advise(0, 1, 0));
            if (maker.make().count(0) == 0) {
                Check.dueThrow(maker, "wear()", Check.STATE, x -> x.wear());
            }
        }
    }

    // "If several exceptions apply, the one that is named first is thrown."
    private static void theExceptionNamedFirstIsThrown() {
        int[] from = {Integer.MIN_VALUE, -1, 0, 31, 32, Integer.MAX_VALUE};
        int[] step = {Integer.MIN_VALUE, -1, 0, 31, 32, Integer.MAX_VALUE};
        int[] many = {Integer.MIN_VALUE, 0, 1, 40, 41, Integer.MAX_VALUE};
        Check.Maker maker = () -> Check.used(6, 6, 2);
        for (int f : from) {
            for (int s : step) {
                for (int m : many) {
                    boolean index = f < 0 || f > 31;
                    if (index || s < 0 || s > 31 || m < 1 || m > 40) {
                        Class<?> first = index ? Check.INDEX : Check.ARGUMENT;
                        String row = "(" + f + ", " + s + ", " + m + ")";
                        Check.dueThrow(maker, "useAll" + row, first, x -> x.useAll(f, s, m));
                        Check.dueThrow(maker, "would" + row, first, x -> x.would(f, s, m));
                        Check.dueThrow(maker, "advise" + row, first, x -> x.advise(f, s, m));
                    }
                }
            }
        }
    }
}
