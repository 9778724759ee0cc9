/** Promise 2: using a last, step by step, with the weights wearing behind it. */
public final class P02UseTest {
    public static void main(String[] args) {
        growsAndChangesPlaces();
        wearsAtTheLimit();
        breaksTiesInTheHeap();
        forgetsSeldomUsedOnes();
        wearsOnceEvenIfStillTooHeavy();
        refusesWrongLasts();
        Check.end();
    }

    private static void step(CobblerCodes x, int last, int bits, String row, int exchanges) {
        Check.due("use(" + last + ")", x.use(last), bits);
        Check.due("the row behind use(" + last + ")", Check.row(x), row);
        Check.due("count(5) behind use(" + last + ")", x.count(5), exchanges);
    }

    private static void growsAndChangesPlaces() {
        CobblerCodes x = new CobblerCodes();
        step(x, 7, 5, "2:/1 1:S 1:7", 0);
        step(x, 3, 6, "3:/1 2:/3 1:7 1:S 1:3", 0);
        step(x, 7, 1, "4:/1 2:/3 2:7 1:S 1:3", 0);
        step(x, 7, 1, "5:/1 3:7 2:/3 1:S 1:3", 1);
        // The sole is the first one as heavy as last 3 here, and gives its place.
        step(x, 3, 2, "6:/1 3:7 3:/3 2:3 1:S", 2);
        // The sole splits where it stands; no other node weighs 1.
        step(x, 0, 7, "7:/1 4:/3 3:7 2:3 2:/5 1:S 1:0", 3);
        CobblerCodes y = new CobblerCodes();
        step(y, 5, 5, "2:/1 1:S 1:5", 0);
        step(y, 5, 1, "3:/1 2:5 1:S", 1);
    }

    private static void wearsAtTheLimit() {
        CobblerCodes x = new CobblerCodes();
        x.setLimit(4);
        step(x, 1, 5, "2:/1 1:S 1:1", 0);
        step(x, 1, 1, "3:/1 2:1 1:S", 1);
        Check.due("count(6) one short of the limit", x.count(6), 0);
        step(x, 1, 1, "2:/1 1:1 1:S", 1);
        Check.due("count(6) at the limit", x.count(6), 1);
        CobblerCodes y = new CobblerCodes();
        for (int k = 0; k < 62; k++) {
            y.use(31);
        }
        Check.due("count(2) behind 62 uses", y.count(2), 63);
        Check.due("count(6) behind 62 uses", y.count(6), 0);
        y.use(31);
        Check.due("count(2) behind 63 uses", y.count(2), 32);
        Check.due("told(31, 0) behind 63 uses", y.told(31, 0), 31);
        Check.due("count(6) behind 63 uses", y.count(6), 1);
    }

    private static void breaksTiesInTheHeap() {
        CobblerCodes x = new CobblerCodes();
        x.setLimit(5);
        x.use(9);
        x.use(9);
        x.use(4);
        Check.due("count(6) at root 4 of 5", x.count(6), 0);
        x.use(4);
        Check.due("the row worn from 9, 9, 4, 4", Check.row(x), "3:/1 2:/3 1:9 1:4 1:S");
        Check.due("node(1, 2)", x.node(1, 2), 0);
        Check.due("node(4, 2)", x.node(4, 2), 1);
    }

    private static void forgetsSeldomUsedOnes() {
        CobblerCodes x = Check.used(20, 21, 21, 21);
        x.setLimit(6);
        x.use(21);
        Check.due("the row with 20 forgotten", Check.row(x), "3:/1 2:21 1:S");
        Check.due("told(20, 0) forgotten", x.told(20, 0), -1);
        Check.due("use(20) forgotten", x.use(20), 6);
    }

    private static void wearsOnceEvenIfStillTooHeavy() {
        CobblerCodes x = new CobblerCodes();
        for (int k = 0; k < 40; k++) {
            x.use(6);
        }
        x.setLimit(4);
        Check.due("count(6) behind setLimit() alone", x.count(6), 0);
        x.use(6);
        Check.due("count(6) one use later", x.count(6), 1);
        Check.due("count(2) one use later", x.count(2), 21);
        x.use(6);
        Check.due("count(6) two uses later", x.count(6), 2);
        Check.due("count(2) two uses later", x.count(2), 11);
    }

    private static void refusesWrongLasts() {
        for (int last : new int[] {-1, 32, 33, 100, Integer.MIN_VALUE, Integer.MAX_VALUE}) {
            Check.dueThrow(() -> Check.used(1, 2, 2, 3), "use(" + last + ")", Check.INDEX, x -> x.use(last));
        }
        CobblerCodes x = Check.used(1, 2, 2, 3);
        Check.due("use(0)", x.use(0) > 5, true);
        Check.due("use(31)", x.use(31) > 5, true);
    }
}
