import java.util.Arrays;

/** Each sentence of the section 'Terms' that names a boundary case, in the document's order, has a test of its own here. */
public final class TermsSentencesTest {
    public static void main(String[] args) {
        usedForAtMost512Calls();
        divisionIsCutTowardsNought();
        lastsAreNumberedFromNought();
        aLastIsKnownIfItHasALeaf();
        theSoleAlwaysHasALeaf();
        rootStandsFirst();
        partsStandSideBySide();
        weightsAreThoseOfThePartsAdded();
        theSolesWeightIsAlways1();
        atFirstTheSoleAlone();
        theCodeIsTheWay();
        theLengthIsNoughtAtTheRoot();
        takesTheLengthOfItsCode();
        takesTheSolesLengthAnd5More();
        newPartsComeToTheEnd();
        theForkStandsWhereTheSoleStood();
        changesWithTheFirstOneAsHeavy();
        changesWithAForkAsHeavy();
        staysIfItIsTheFirstOne();
        aForkKeepsItsWeightTillItsTurn();
        takesAlongWhatHangsBelow();
        goesOnWhereItCame();
        wearsAtTheFirstLimitOf64();
        wearsIfTheRootIsMoreThanTheLimit();
        wearsBehindEachUseOfARow();
        Check.end();
    }

    private static void rows(String when, CobblerCodes x, String want) {
        Check.due("the row " + when, Check.row(x), want);
    }

    // "An object is used for at most 512 calls after it has been made"
    private static void usedForAtMost512Calls() {
        CobblerCodes x = new CobblerCodes();
        PlainModel m = new PlainModel();
        for (int k = 1; k < 512; k++) {
            x.useAll(k % 32, k / 32 + 1, 40);
            m.useAll(k % 32, k / 32 + 1, 40);
        }
        Check.due("digest(), the 512th call behind 511 rows of 40", x.digest(), m.digest());
    }

    // "All numbers are whole, and / is cut towards 0."
    private static void divisionIsCutTowardsNought() {
        CobblerCodes x = Check.used(1, 2, 2, 3, 3, 3, 4, 4, 4, 4, 5, 5, 5, 5, 5);
        x.wear();
        int[] kept = {-1, -1, 1, 1, 2, 2, -1};
        for (int last = 0; last < kept.length; last++) {
            Check.due("told(" + last + ", 0), halved and cut", x.told(last, 0), kept[last]);
        }
    }

    // "There are 32, numbered from 0; the sole is 32."
    private static void lastsAreNumberedFromNought() {
        int[] seen = new int[33];
        for (int last : new Row(Shops.full()).last) {
            if (last >= 0) {
                seen[last]++;
            }
        }
        int[] once = new int[33];
        Arrays.fill(once, 1);
        Check.due("the leaves of 0 to 32 in a full row", Arrays.toString(seen), Arrays.toString(once));
    }

    // "A last is known, if it has a leaf in the tree"
    private static void aLastIsKnownIfItHasALeaf() {
        for (CobblerCodes x : Shops.each()) {
            Row row = new Row(x);
            int known = 0;
            for (int last = 0; last < 32; last++) {
                Check.due("told(" + last + ", 4)", x.told(last, 4), row.placeOf(last));
                known += row.knows(last) ? 1 : 0;
            }
            Check.due("count(0)", x.count(0), known);
            Check.due("count(1), two nodes for each last known and the sole's", x.count(1), 2 * known + 1);
        }
    }

    // "the sole always has one."
    private static void theSoleAlwaysHasALeaf() {
        for (CobblerCodes x : Shops.each()) {
            Check.due("sole(4)", x.sole(4), new Row(x).placeOf(32));
            Check.due("sole(4) is a place", x.sole(4) >= 0, true);
        }
    }

    // "Its nodes stand in a row, at places from 0, the root first"
    private static void rootStandsFirst() {
        for (CobblerCodes x : Shops.each()) {
            Row row = new Row(x);
            for (int place = 0; place < row.places; place++) {
                Check.due("place " + place + " is the root's", row.above[place] == -1, place == 0);
            }
            Check.due("count(2), the weight at the place 0", x.count(2), row.weight[0]);
        }
    }

    // "a fork with two parts, which stand side by side, the first one ahead of the second one"
    private static void partsStandSideBySide() {
        for (CobblerCodes x : Shops.each()) {
            Row row = new Row(x);
            int parts = 0;
            for (int fork = 0; fork < row.places; fork++) {
                int first = row.first[fork];
                if (first >= 0) {
                    Check.due("above the first part of " + fork, row.above[first], fork);
                    Check.due("above the second part of " + fork, row.above[first + 1], fork);
                    parts += 2;
                }
            }
            Check.due("nodes that are a part", parts, row.places - 1);
        }
    }

    // "Each node has a weight: a leaf its own one .., a fork those of its parts, added."
    private static void weightsAreThoseOfThePartsAdded() {
        for (CobblerCodes x : Shops.each()) {
            Row row = new Row(x);
            for (int place = 0; place < row.places; place++) {
                int first = row.first[place];
                int last = row.last[place];
                int leafs = last == 32 ? x.sole(0) : last >= 0 ? x.told(last, 0) : 0;
                int want = first >= 0 ? row.weight[first] + row.weight[first + 1] : leafs;
                Check.due("node(" + place + ", 0)", row.weight[place], want);
            }
        }
    }

    // "(the sole's is 1 always)"
    private static void theSolesWeightIsAlways1() {
        for (CobblerCodes x : Shops.each()) {
            Check.due("sole(0)", x.sole(0), 1);
            Check.due("node(.., 0) of the sole", x.node(x.sole(4), 0), 1);
            x.use(0);
            Check.due("sole(0) behind a use", x.sole(0), 1);
            x.wear();
            Check.due("sole(0) behind wear()", x.sole(0), 1);
        }
    }

    // "At first there is the leaf of the sole alone."
    private static void atFirstTheSoleAlone() {
        rows("at first", Shops.untouched(), "1:S");
        Check.due("count(1) at first", Shops.untouched().count(1), 1);
    }

    // "The code of a leaf is the way from the root to it: a 0 for each first part, a 1 for each second one that is gone to"
    private static void theCodeIsTheWay() {
        for (CobblerCodes x : Shops.each()) {
            Row row = new Row(x);
            for (int last = 0; last < 32; last++) {
                if (row.knows(last)) {
                    String way = row.codeOf(last);
                    Check.due("told(" + last + ", 1)", x.told(last, 1), way.length());
                    Check.due("told(" + last + ", 2)", x.told(last, 2), Row.number(way));
                }
            }
            String way = row.codeOf(32);
            Check.due("sole(1)", x.sole(1), way.length());
            Check.due("sole(2)", x.sole(2), Row.number(way));
        }
        // 12 leaves one below the other: the deepest way has 11 forks.
        Check.due("sole(1) at the end of a chain", Shops.chain().sole(1), 11);
        Check.due("told(0, 1) at the end of a chain", Shops.chain().told(0, 1), 11);
        Check.due("told(10, 1) at the head of a chain", Shops.chain().told(10, 1), 1);
    }

    // "its length is how many these are (0, if it is the root)."
    private static void theLengthIsNoughtAtTheRoot() {
        Check.due("sole(1) of a new object", Shops.untouched().sole(1), 0);
        Check.due("sole(2) of a new object", Shops.untouched().sole(2), 0);
        Check.due("sole(3) of a new object", Shops.untouched().sole(3), 0);
        Check.due("sole(1) with all forgotten", Shops.emptied().sole(1), 0);
        Check.due("sole(1) beside one last", Shops.withOne().sole(1), 1);
    }

    // "It takes as many bits as its code is long"
    private static void takesTheLengthOfItsCode() {
        for (int last = 0; last < 32; last++) {
            Check.due("use(" + last + ") of all", Shops.full().use(last), Shops.full().told(last, 1));
        }
        Check.due("use(17), the only one", Shops.withOne().use(17), 1);
        Check.due("use(0) at the end of a chain", Shops.chain().use(0), 11);
    }

    // "if it is not known, as many as the sole's code is long, and 5 more."
    private static void takesTheSolesLengthAnd5More() {
        Check.due("use(0) of a new object", Shops.untouched().use(0), 5);
        Check.due("use(31) of a new object", Shops.untouched().use(31), 5);
        Check.due("use(3), forgotten", Shops.emptied().use(3), 5);
        Check.due("use(0) beside one last", Shops.withOne().use(0), 6);
        Check.due("use(31) at the end of a chain", Shops.chain().use(31), 16);
        CobblerCodes x = new CobblerCodes();
        x.useAll(0, 1, 31);
        // 31 lasts and the sole, each of the weight 1: all codes have 5 bits.
        Check.due("use(31), the last one to be known", x.use(31), 10);
    }

    // "these two are put at the end of the row, the sole ahead of the leaf"
    private static void newPartsComeToTheEnd() {
        CobblerCodes x = new CobblerCodes();
        for (int last = 31; last >= 0; last--) {
            x.use(last);
            Check.due("sole(4) behind use(" + last + ")", x.sole(4), x.count(1) - 2);
            Check.due("told(" + last + ", 4) behind its first use", x.told(last, 4), x.count(1) - 1);
        }
        Check.due("count(1) with all known", x.count(1), 65);
    }

    // "in the place of the sole comes a fork, .. with the sole as its first part, and a new leaf of this last .. as its
    // second one; .. the fork stands where the sole stood."
    private static void theForkStandsWhereTheSoleStood() {
        CobblerCodes x = Check.used(5, 5, 9, 9, 9);
        rows("ahead of it", x, "6:/1 3:/3 3:9 2:5 1:S");
        int stood = x.sole(4);
        x.use(0);
        rows("behind it", x, "7:/1 4:/3 3:9 2:5 2:/5 1:S 1:0");
        Check.due("node(.., 3) where the sole stood", x.node(stood, 3), 5);
        Check.due("sole(2), 011", x.sole(1) * 100 + x.sole(2), 302);
        Check.due("told(0, 2), 011", x.told(0, 1) * 100 + x.told(0, 2), 303);
    }

    // "the node changes places with the first one in the row, of all nodes, that is as heavy as it is"
    private static void changesWithTheFirstOneAsHeavy() {
        CobblerCodes x = Check.used(1, 2, 3);
        rows("with four leaves of the weight 1", x, "4:/1 2:/3 2:/5 1:1 1:2 1:S 1:3");
        x.use(3);
        // 3 comes to the place of 1, the first of the weight 1, and 1 to the end.
        rows("with the first of four", x, "5:/1 3:/3 2:/5 2:3 1:2 1:S 1:1");
        Check.due("told(3, 4)", x.told(3, 4), 3);
        Check.due("told(1, 4)", x.told(1, 4), 6);
    }

    // "of all nodes": a leaf with a fork, a fork with a leaf
    private static void changesWithAForkAsHeavy() {
        CobblerCodes x = Check.used(7, 3, 7);
        rows("with a leaf behind a fork as heavy", x, "4:/1 2:/3 2:7 1:S 1:3");
        x.use(7);
        rows("with the leaf ahead", x, "5:/1 3:7 2:/3 1:S 1:3");
        Check.due("count(5), a leaf with a fork", x.count(5), 1);
        CobblerCodes y = Check.used(5, 5, 9);
        rows("with a fork behind a leaf as heavy", y, "4:/1 2:5 2:/3 1:S 1:9");
        y.use(9);
        rows("with the fork still behind", y, "5:/1 3:/3 2:5 2:9 1:S");
        Check.due("count(5), two more", y.count(5), 3);
    }

    // "(unless it is this one itself"
    private static void staysIfItIsTheFirstOne() {
        CobblerCodes x = Check.used(1);
        Check.due("count(5), no other is as heavy", x.count(5), 0);
        x.use(1);
        Check.due("count(5), the sole is ahead", x.count(5), 1);
        x.use(1);
        x.use(1);
        Check.due("count(5), the first one itself", x.count(5), 1);
        rows("with none changed", x, "5:/1 4:1 1:S");
    }

    // "a fork has the weight that it had, till it is its turn"
    private static void aForkKeepsItsWeightTillItsTurn() {
        CobblerCodes x = Check.used(6, 6);
        rows("ahead of it", x, "3:/1 2:6 1:S");
        x.use(8);
        // The fork is 1 till its turn, and so doesn't change places with 6, though its parts are 2 by then.
        rows("behind it", x, "4:/1 2:6 2:/3 1:S 1:8");
        Check.due("count(5)", x.count(5), 1);
    }

    // "in the row, and in the tree, with all that hangs below it, so each one becomes the part .. that the other one was"
    private static void takesAlongWhatHangsBelow() {
        CobblerCodes x = Check.used(5, 5, 9);
        Check.due("told(5, 2) ahead of it", x.told(5, 2), 0);
        x.use(9);
        // The fork of 9 and the sole goes to the first part, and 5 to the second one.
        Check.due("told(5, 2)", x.told(5, 2), 1);
        Check.due("told(9, 2) with its fork", x.told(9, 1) * 100 + x.told(9, 2), 200);
        Check.due("sole(2) with its fork", x.sole(1) * 100 + x.sole(2), 201);
        Check.due("node(3, 2)", x.node(3, 2), 1);
    }

    // "it is gone on with the node that is above it then, where it came."
    private static void goesOnWhereItCame() {
        CobblerCodes x = Check.used(1, 2, 3);
        Check.due("above 3", x.node(x.told(3, 4), 2), 2);
        x.use(3);
        // It came below the other fork: that one is 3 now, the one that it came from is 2 as before.
        Check.due("node(1, 0), above it then", x.node(x.node(x.told(3, 4), 2), 0), 3);
        Check.due("node(2, 0), where it was", x.node(x.node(x.told(1, 4), 2), 0), 2);
    }

    // "If the weight of the root is the limit (64, at first) or more then, weights wear"
    private static void wearsAtTheFirstLimitOf64() {
        CobblerCodes x = new CobblerCodes();
        Check.due("count(7) at first", x.count(7), 64);
        x.useAll(0, 0, 40);
        x.useAll(0, 0, 22);
        Check.due("count(6) at 63", x.count(2) * 10 + x.count(6), 630);
        x.use(1);
        Check.due("count(6) at 64", x.count(6), 1);
        Check.due("count(2) of 31 and the sole", x.count(2), 32);
        Check.due("told(1, 0) of the one use that made it 64", x.told(1, 0), -1);
    }

    // "or more": a limit that was set below the weight
    private static void wearsIfTheRootIsMoreThanTheLimit() {
        for (int limit = 4; limit <= 11; limit++) {
            CobblerCodes x = new CobblerCodes();
            x.useAll(2, 0, 8);
            x.setLimit(limit);
            x.use(2);
            Check.due("count(6), the root 10 and the limit " + limit, x.count(6), limit <= 10 ? 1 : 0);
            Check.due("count(2), the root 10 and the limit " + limit, x.count(2), limit <= 10 ? 5 : 10);
        }
    }

    // "(behind each use, in a row of uses as well)"
    private static void wearsBehindEachUseOfARow() {
        CobblerCodes x = new CobblerCodes();
        x.setLimit(4);
        // The sole and 3 make 4 behind three uses, and 2 again; then each second use comes to 4.
        Check.due("useAll(0, 0, 3)", x.useAll(0, 0, 3), 7);
        Check.due("count(6) behind three uses", x.count(6), 1);
        Check.due("useAll(0, 0, 10)", x.useAll(0, 0, 10), 10);
        Check.due("count(6) behind ten more", x.count(6), 6);
        CobblerCodes y = new CobblerCodes();
        y.setLimit(4);
        // Three lasts of the weight 1 make 4 with the sole, and are forgotten then: 5 + 6 + 7, and so on.
        Check.due("useAll(0, 1, 40)", y.useAll(0, 1, 40), 13 * 18 + 5);
        Check.due("count(6) behind 40 uses", y.count(6), 13);
        Check.due("count(0) behind 40 uses", y.count(0), 1);
    }
}
