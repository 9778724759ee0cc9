import java.util.Arrays;

/** Promises 1 to 9: each sentence that names a boundary case, in the document's order, has a test of its own here. */
public final class UsingSentencesTest {
    public static void main(String[] args) {
        p01KnowsNoLast();
        p02ReturnsTheBits();
        p02LastIsNot0To31();
        p03RemainderOf32();
        p03ReturnsTheBitsTogether();
        p03FromIsNot0To31();
        p03StepIsNot0To31();
        p03ManyIsNot1To40();
        p04AskedBehindTheNextUse();
        p04ReturnsTheOneBefore();
        p04LimitIsNot4To400();
        p05ReturnsHowManyAreForgotten();
        p05NoLastIsKnown();
        p06UnknownIsMinus1();
        p06BitsIfItWasUsedNow();
        p06FirstBitIsTheHighest();
        p06LastIsNot0To31();
        p06WhatIsNot0To5();
        p07OfTheSoleAsTold();
        p07WhatIsNot0To4();
        p08LastOfALeafOrMinus1();
        p08AboveOrMinus1();
        p08FirstPartOrMinus1();
        p08NoSuchPlace();
        p08WhatIsNot0To3();
        p09CountsOfTheTree();
        p09CountsOfUsesAndBits();
        p09CountsOfExchangesAndWears();
        p09CountOfTheLimit();
        p09WhatIsNot0To7();
        Check.end();
    }

    // "Creates a shop that knows no last."
    private static void p01KnowsNoLast() {
        CobblerCodes x = new CobblerCodes();
        Check.due("count() of a new object", Arrays.toString(Check.counts(x)), "[0, 1, 1, 0, 0, 0, 0, 64]");
        for (int last = 0; last < 32; last++) {
            Check.due("told(" + last + ", 4) of a new object", x.told(last, 4), -1);
        }
        Check.dueThrow(CobblerCodes::new, "wear() of a new object", Check.STATE, y -> y.wear());
    }

    // "Returns how many bits it takes."
    private static void p02ReturnsTheBits() {
        // The codes: the sole's empty one, 31 at 1, the sole at 1, 31 at 0, 0 at 11, the sole at 11.
        int[] bits = {5, 1, 6, 1, 2, 7};
        int[] lasts = {31, 31, 0, 31, 0, 30};
        CobblerCodes x = new CobblerCodes();
        int[] got = new int[6];
        for (int k = 0; k < 6; k++) {
            got[k] = x.use(lasts[k]);
        }
        Check.due("use() of 31, 31, 0, 31, 0, 30", Arrays.toString(got), Arrays.toString(bits));
    }

    // "Throws `IndexOutOfBoundsException` if last is not 0 to 31"
    private static void p02LastIsNot0To31() {
        for (Check.Maker maker : Shops.MAKERS) {
            for (int last : new int[] {-1, 32}) {
                Check.dueThrow(maker, "use(" + last + ")", Check.INDEX, x -> x.use(last));
            }
            for (int last : Shops.FAR) {
                Check.dueThrow(maker, "use(" + last + ")", Check.INDEX, x -> x.use(last));
            }
        }
        for (CobblerCodes x : Shops.each()) {
            Check.due("use(0) throws nothing", x.use(0) >= 1, true);
            Check.due("use(31) throws nothing", x.use(31) >= 1, true);
        }
    }

    // "from, from + step, from + 2 * step and so on, each by the remainder of 32."
    private static void p03RemainderOf32() {
        weights("(31, 1, 2)", 31, 1, 2, 31, 0);
        weights("(31, 31, 3)", 31, 31, 3, 31, 30, 29);
        weights("(0, 31, 3)", 0, 31, 3, 0, 31, 30);
        weights("(1, 31, 2)", 1, 31, 2, 1, 0);
        weights("(16, 16, 4)", 16, 16, 4, 16, 0, 16, 0);
        weights("(5, 0, 3)", 5, 0, 3, 5, 5, 5);
        CobblerCodes x = new CobblerCodes();
        x.setLimit(400);
        x.useAll(31, 31, 40);
        for (int last = 0; last < 32; last++) {
            Check.due("told(" + last + ", 0) behind (31, 31, 40)", x.told(last, 0), last >= 24 ? 2 : 1);
        }
    }

    private static void weights(String row, int from, int step, int many, int... lasts) {
        CobblerCodes x = new CobblerCodes();
        x.useAll(from, step, many);
        Check.due("all behind useAll" + row, Check.all(x), Check.all(Check.used(lasts)));
    }

    // "Returns how many bits they take together."
    private static void p03ReturnsTheBitsTogether() {
        Check.due("useAll(9, 31, 1)", new CobblerCodes().useAll(9, 31, 1), 5);
        Check.due("useAll(9, 0, 40)", new CobblerCodes().useAll(9, 0, 40), 5 + 39);
        for (CobblerCodes x : Shops.each()) {
            int before = x.count(4);
            int bits = x.useAll(0, 31, 40);
            Check.due("count(4) grown by useAll(0, 31, 40)", x.count(4) - before, bits);
        }
    }

    private static void refusesRow(int from, int step, int many, Class<?> type) {
        Check.dueThrow(() -> Check.used(8, 9, 9), "useAll(" + from + ", " + step + ", " + many + ")", type,
            x -> x.useAll(from, step, many));
    }

    private static void takesRow(int from, int step, int many) {
        CobblerCodes x = new CobblerCodes();
        x.useAll(from, step, many);
        Check.due("count(3) behind useAll(" + from + ", " + step + ", " + many + ")", x.count(3), many);
    }

    // "Throws `IndexOutOfBoundsException` if from is not 0 to 31"
    private static void p03FromIsNot0To31() {
        takesRow(0, 1, 5);
        takesRow(31, 1, 5);
        refusesRow(-1, 1, 5, Check.INDEX);
        refusesRow(32, 1, 5, Check.INDEX);
        for (int far : Shops.FAR) {
            refusesRow(far, 1, 5, Check.INDEX);
        }
    }

    // "Throws `IllegalArgumentException` if step is not 0 to 31"
    private static void p03StepIsNot0To31() {
        takesRow(3, 0, 5);
        takesRow(3, 31, 5);
        refusesRow(3, -1, 5, Check.ARGUMENT);
        refusesRow(3, 32, 5, Check.ARGUMENT);
        for (int far : Shops.FAR) {
            refusesRow(3, far, 5, Check.ARGUMENT);
        }
    }

    // "or many is not 1 to 40"
    private static void p03ManyIsNot1To40() {
        takesRow(3, 1, 1);
        takesRow(3, 1, 40);
        refusesRow(3, 1, 0, Check.ARGUMENT);
        refusesRow(3, 1, 41, Check.ARGUMENT);
        refusesRow(3, 1, -1, Check.ARGUMENT);
        for (int far : Shops.FAR) {
            refusesRow(3, 1, far, Check.ARGUMENT);
        }
    }

    // "the limit from now on (asked behind the next use)"
    private static void p04AskedBehindTheNextUse() {
        CobblerCodes x = new CobblerCodes();
        x.useAll(1, 0, 20);
        x.setLimit(4);
        Check.due("count(2), not asked yet", x.count(2), 21);
        x.wear();
        Check.due("count(2), not asked behind wear()", x.count(2), 11);
        x.would(1, 0, 40);
        x.read(0, 1);
        Check.due("count(6), of wear() alone", x.count(6), 1);
        x.use(1);
        Check.due("count(6), asked behind the use", x.count(6), 2);
        Check.due("count(2) behind it", x.count(2), 6);
        x.setLimit(400);
        x.use(1);
        Check.due("count(6), raised ahead of the next use", x.count(6), 2);
    }

    // "Returns the one before."
    private static void p04ReturnsTheOneBefore() {
        CobblerCodes x = new CobblerCodes();
        int before = 64;
        for (int limit : new int[] {4, 400, 400, 64, 5, 399}) {
            Check.due("setLimit(" + limit + ")", x.setLimit(limit), before);
            before = limit;
        }
        Check.outcome(x, y -> y.setLimit(401));
        Check.due("setLimit(4) behind a refused one", x.setLimit(4), 399);
    }

    // "Throws `IllegalArgumentException` if limit is not 4 to 400"
    private static void p04LimitIsNot4To400() {
        for (CobblerCodes x : Shops.each()) {
            x.setLimit(4);
            Check.due("setLimit(400)", x.setLimit(400), 4);
        }
        for (Check.Maker maker : Shops.MAKERS) {
            for (int limit : new int[] {3, 401, 0, 1, 2, -1, -4, -400, 404}) {
                Check.dueThrow(maker, "setLimit(" + limit + ")", Check.ARGUMENT, x -> x.setLimit(limit));
            }
            for (int limit : new int[] {Integer.MIN_VALUE, Integer.MIN_VALUE + 64, 65536 + 64, Integer.MAX_VALUE}) {
                Check.dueThrow(maker, "setLimit(" + limit + ")", Check.ARGUMENT, x -> x.setLimit(limit));
            }
        }
    }

    // "Returns how many lasts are forgotten."
    private static void p05ReturnsHowManyAreForgotten() {
        Check.due("wear() of 2 and 2", Check.used(0, 0, 31, 31).wear(), 0);
        Check.due("wear() of 1 alone", Shops.withOne().wear(), 1);
        Check.due("wear() of 1 and 2", Check.used(0, 31, 31).wear(), 1);
        Check.due("wear() of all 32", Shops.full().wear(), 32);
        CobblerCodes x = Shops.fullAndUneven();
        // 28 of them were used again and again; 0 to 3 but once.
        Check.due("wear() of all 32, uneven", x.wear(), 4);
        Check.due("count(0) behind it", x.count(0), 28);
        CobblerCodes y = new CobblerCodes();
        y.useAll(0, 1, 32);
        y.setLimit(400);
        y.useAll(0, 1, 32);
        Check.due("wear() of all 32 at 2", y.wear(), 0);
        Check.due("wear() of all 32 at 1 again", y.wear(), 32);
    }

    // "Throws `IllegalStateException` if no last is known"
    private static void p05NoLastIsKnown() {
        Check.dueThrow(Shops::untouched, "wear() of a new object", Check.STATE, x -> x.wear());
        Check.dueThrow(Shops::emptied, "wear() with all forgotten", Check.STATE, x -> x.wear());
        CobblerCodes y = Shops.emptied();
        for (int k = 0; k < 3; k++) {
            Check.due("wear() with all forgotten", Check.outcome(y, CobblerCodes::wear), "throws.IllegalStateException");
            y.use(8);
            Check.due("wear() with one known again", y.wear(), 1);
        }
    }

    // "-1 for each of these, if it is not known"
    private static void p06UnknownIsMinus1() {
        for (CobblerCodes x : Shops.each()) {
            Row row = new Row(x);
            for (int last = 0; last < 32; last++) {
                for (int what = 0; what < 5; what++) {
                    int told = x.told(last, what);
                    Check.due("told(" + last + ", " + what + ") is -1", told == -1, !row.knows(last));
                    Check.due("told(" + last + ", " + what + ") is -1 at least", told >= -1, true);
                }
            }
        }
        CobblerCodes y = Check.used(12);
        y.wear();
        for (int what = 0; what < 5; what++) {
            Check.due("told(12, " + what + "), forgotten", y.told(12, what), -1);
        }
    }

    // "5 how many bits it would take, if it was used now"
    private static void p06BitsIfItWasUsedNow() {
        int states = Shops.each().length;
        for (int state = 0; state < states; state++) {
            for (int last = 0; last < 32; last++) {
                CobblerCodes x = Shops.each()[state];
                int told = x.told(last, 5);
                Check.due("told(" + last + ", 5) in the state " + state, told, x.use(last));
            }
        }
        Check.due("told(0, 5) of a new object", Shops.untouched().told(0, 5), 5);
        Check.due("told(31, 5) with all forgotten", Shops.emptied().told(31, 5), 5);
        Check.due("told(31, 5) at the end of a chain", Shops.chain().told(31, 5), 16);
    }

    // "2 its code as a number (the first bit is the highest one)"
    private static void p06FirstBitIsTheHighest() {
        CobblerCodes x = Check.used(5, 5, 9, 9, 9, 0);
        Check.due("told(0, 2), 011", x.told(0, 1) * 100 + x.told(0, 2), 303);
        Check.due("told(5, 2), 00", x.told(5, 1) * 100 + x.told(5, 2), 200);
        Check.due("sole(2), 010", x.sole(1) * 100 + x.sole(2), 302);
        Check.due("told(9, 2), 1", x.told(9, 1) * 100 + x.told(9, 2), 101);
    }

    private static void refusesTold(int last, int what) {
        for (Check.Maker maker : new Check.Maker[] {Shops::untouched, Shops::withOne, Shops::full}) {
            Check.dueThrow(maker, "told(" + last + ", " + what + ")", Check.INDEX, x -> x.told(last, what));
        }
    }

    // "Throws `IndexOutOfBoundsException` if last is not 0 to 31": the sole, 32, is none
    private static void p06LastIsNot0To31() {
        for (int what = 0; what < 6; what++) {
            refusesTold(-1, what);
            refusesTold(32, what);
            for (int far : Shops.FAR) {
                refusesTold(far, what);
            }
            Check.due("told(0, " + what + ") throws nothing", Shops.full().told(0, what) >= 0, true);
            Check.due("told(31, " + what + ") throws nothing", Shops.full().told(31, what) >= 0, true);
        }
    }

    // "or what is not 0 to 5"
    private static void p06WhatIsNot0To5() {
        for (int last : new int[] {0, 17, 31, -1, 32}) {
            refusesTold(last, -1);
            refusesTold(last, 6);
            for (int far : Shops.FAR) {
                refusesTold(last, far);
            }
        }
    }

    // "of the sole: 0 to 4 as told() has it"
    private static void p07OfTheSoleAsTold() {
        sole("alone", Shops.untouched(), 1, 0, 0, 0, 0);
        sole("with all forgotten", Shops.emptied(), 1, 0, 0, 0, 0);
        sole("beside one last", Shops.withOne(), 1, 1, 0, 1, 1);
        sole("at the end of a chain", Shops.chain(), 1, 11, Shops.chain().sole(2), 2047, Shops.chain().sole(4));
        for (CobblerCodes x : Shops.each()) {
            Check.due("told() of all and sole() make up whole codes", kraft(x), 1L << 32);
        }
    }

    private static void sole(String when, CobblerCodes x, int... wants) {
        for (int what = 0; what < 5; what++) {
            Check.due("sole(" + what + ") " + when, x.sole(what), wants[what]);
        }
    }

    private static long kraft(CobblerCodes x) {
        long sum = 1L << 32 - x.sole(1);
        for (int last = 0; last < 32; last++) {
            sum += x.told(last, 1) < 0 ? 0 : 1L << 32 - x.told(last, 1);
        }
        return sum;
    }

    // "Throws `IndexOutOfBoundsException` if what is not 0 to 4": 5, that told() has, is none
    private static void p07WhatIsNot0To4() {
        for (Check.Maker maker : Shops.MAKERS) {
            for (int what : new int[] {-1, 5, 6}) {
                Check.dueThrow(maker, "sole(" + what + ")", Check.INDEX, x -> x.sole(what));
            }
            for (int what : Shops.FAR) {
                Check.dueThrow(maker, "sole(" + what + ")", Check.INDEX, x -> x.sole(what));
            }
        }
    }

    // "1 its last (32 for the sole), -1 for a fork"
    private static void p08LastOfALeafOrMinus1() {
        for (CobblerCodes x : Shops.each()) {
            Row row = new Row(x);
            for (int place = 0; place < row.places; place++) {
                boolean fork = row.first[place] >= 0;
                int last = row.last[place];
                Check.due("node(" + place + ", 1) is -1", last == -1, fork);
                if (!fork) {
                    Check.due("the place of " + last, last == 32 ? x.sole(4) : x.told(last, 4), place);
                }
            }
        }
        Check.due("node(0, 1) of the sole alone", Shops.untouched().node(0, 1), 32);
        Check.due("node(0, 1) of a fork", Shops.withOne().node(0, 1), -1);
    }

    // "2 the place of the fork above it, -1 for the root"
    private static void p08AboveOrMinus1() {
        Check.due("node(0, 2) of the sole alone", Shops.untouched().node(0, 2), -1);
        Check.due("node(0, 2) with all forgotten", Shops.emptied().node(0, 2), -1);
        for (CobblerCodes x : Shops.each()) {
            Row row = new Row(x);
            Check.due("node(0, 2)", row.above[0], -1);
            for (int place = 1; place < row.places; place++) {
                int first = row.first[row.above[place]];
                Check.due(place + " is a part of the fork above it", first == place || first + 1 == place, true);
            }
        }
    }

    // "3 the place of its first part, -1 for a leaf"
    private static void p08FirstPartOrMinus1() {
        Check.due("node(0, 3) of the sole alone", Shops.untouched().node(0, 3), -1);
        Check.due("node(0, 3) with all forgotten", Shops.emptied().node(0, 3), -1);
        Check.due("node(0, 3) beside one last", Shops.withOne().node(0, 3), 1);
        for (CobblerCodes x : Shops.each()) {
            Row row = new Row(x);
            for (int place = 0; place < row.places; place++) {
                boolean leaf = row.last[place] >= 0;
                Check.due("node(" + place + ", 3) is -1", row.first[place] == -1, leaf);
                Check.due("node(" + place + ", 3) is behind it", leaf || row.first[place] > place, true);
            }
        }
    }

    // "Throws `IndexOutOfBoundsException` if there is no such place"
    private static void p08NoSuchPlace() {
        for (Check.Maker maker : Shops.MAKERS) {
            int places = maker.make().count(1);
            Check.due("node() of the last place throws nothing", maker.make().node(places - 1, 0) >= 1, true);
            for (int place : new int[] {-1, places, places + 1, 65, 66}) {
                Check.dueThrow(maker, "node(" + place + ", 0) of " + places, Check.INDEX, x -> x.node(place, 0));
            }
            for (int place : Shops.FAR) {
                if (place < 0 || place >= places) {
                    Check.dueThrow(maker, "node(" + place + ", 3) of " + places, Check.INDEX, x -> x.node(place, 3));
                }
            }
        }
        CobblerCodes x = Shops.full();
        Check.due("node(64, 0), the last place of all", x.node(64, 0), 1);
        x.wear();
        Check.due("node(1, 0), a place no more", Check.outcome(x, y -> y.node(1, 0)), "throws.IndexOutOfBoundsException");
    }

    // "or what is not 0 to 3"
    private static void p08WhatIsNot0To3() {
        for (Check.Maker maker : Shops.MAKERS) {
            for (int what : new int[] {-1, 4, 5}) {
                Check.dueThrow(maker, "node(0, " + what + ")", Check.INDEX, x -> x.node(0, what));
                Check.dueThrow(maker, "node(65, " + what + ")", Check.INDEX, x -> x.node(65, what));
            }
            for (int what : Shops.FAR) {
                Check.dueThrow(maker, "node(0, " + what + ")", Check.INDEX, x -> x.node(0, what));
            }
        }
    }

    // "0 lasts that are known, 1 nodes of the tree, 2 the weight of the root"
    private static void p09CountsOfTheTree() {
        tree("alone", Shops.untouched(), 0, 1, 1);
        tree("with all forgotten", Shops.emptied(), 0, 1, 1);
        tree("beside one last", Shops.withOne(), 1, 3, 2);
        tree("of all 32", Shops.full(), 32, 65, 33);
        tree("of a chain", Shops.chain(), 11, 23, 376);
    }

    private static void tree(String when, CobblerCodes x, int... wants) {
        for (int what = 0; what < 3; what++) {
            Check.due("count(" + what + ") " + when, x.count(what), wants[what]);
        }
    }

    // "3 uses in all, 4 bits that they took in all": through wearing and forgetting, but not for what only would be
    private static void p09CountsOfUsesAndBits() {
        CobblerCodes x = new CobblerCodes();
        int bits = 0;
        for (int k = 0; k < 50; k++) {
            bits += x.useAll(k % 32, 7, 40);
            bits += x.use(k % 32);
            x.would(k % 32, 1, 40);
            x.advise(k % 32, 1, 40);
        }
        Check.due("count(3)", x.count(3), 50 * 41);
        Check.due("count(4)", x.count(4), bits);
        x.wear();
        Check.outcome(x, y -> y.use(32));
        Check.outcome(x, y -> y.useAll(0, 0, 41));
        Check.due("count(3) behind what is no use", x.count(3), 50 * 41);
        Check.due("count(4) behind what is no use", x.count(4), bits);
    }

    // "5 how often two nodes changed places in all, 6 how often weights wore in all"
    private static void p09CountsOfExchangesAndWears() {
        CobblerCodes x = Check.used(5, 5, 9, 9);
        Check.due("count(5) of 5, 5, 9, 9", x.count(5), 3);
        x.wear();
        Check.due("count(5) as the tree is built anew", x.count(5), 3);
        Check.due("count(6) of wear()", x.count(6), 1);
        x.setLimit(4);
        x.use(9);
        Check.due("count(6) of wear() and of a use", x.count(6), 2);
        CobblerCodes y = Shops.emptied();
        Check.due("count(6) with all forgotten", y.count(6), 2);
        Check.outcome(y, CobblerCodes::wear);
        Check.due("count(6) behind a refused wear()", y.count(6), 2);
        y.would(0, 1, 40);
        y.advise(0, 1, 40);
        Check.due("count(6) behind what only would be", y.count(6), 2);
    }

    // "7 the limit"
    private static void p09CountOfTheLimit() {
        CobblerCodes x = new CobblerCodes();
        Check.due("count(7) at first", x.count(7), 64);
        for (int limit : new int[] {4, 400, 63}) {
            x.setLimit(limit);
            Check.due("count(7)", x.count(7), limit);
        }
        x.advise(0, 1, 40);
        Check.due("count(7) behind advise()", x.count(7), 63);
    }

    // "Throws `IndexOutOfBoundsException` if what is not 0 to 7"
    private static void p09WhatIsNot0To7() {
        for (Check.Maker maker : Shops.MAKERS) {
            for (int what : new int[] {-1, 8, 9}) {
                Check.dueThrow(maker, "count(" + what + ")", Check.INDEX, x -> x.count(what));
            }
            for (int what : Shops.FAR) {
                Check.dueThrow(maker, "count(" + what + ")", Check.INDEX, x -> x.count(what));
            }
            Check.due("count(0) throws nothing", maker.make().count(0) >= 0, true);
            Check.due("count(7) throws nothing", maker.make().count(7) >= 4, true);
        }
    }
}
