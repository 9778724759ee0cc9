/** Promise 5: letting weights wear. */
public final class P05WearTest {
    public static void main(String[] args) {
        Check.dueThrow(() -> new CobblerCodes(), "wear() of a new object", Check.STATE, none -> none.wear());

        CobblerCodes x = usedToWear();
        Check.due("wear()", x.wear(), 1);
        // Heap: S1 5:1 6:1 7:2, so S and 5 go last, then 6 with 7 (ahead of their fork), then the two forks.
        Check.due("the row behind wear()", Check.row(x), "5:/1 3:/3 2:/5 2:7 1:6 1:5 1:S");
        Check.due("count(6) behind wear()", x.count(6), 1);
        Check.due("count(3) behind wear()", x.count(3), 10);
        Check.due("told(2, 0) behind wear()", x.told(2, 0), -1);
        int exchanges = x.count(5);
        Check.due("second wear()", x.wear(), 2);
        Check.due("the row behind the second wear()", Check.row(x), "2:/1 1:7 1:S");
        Check.due("count(5), not touched by wear()", x.count(5), exchanges);
        Check.due("third wear()", x.wear(), 1);
        Check.due("the row without a last", Check.row(x), "1:S");
        Check.due("sole(1) without a last", x.sole(1), 0);
        Check.due("node(0, 2) without a last", x.node(0, 2), -1);
        Check.due("cheapest() without a last", x.cheapest(), -1);
        Check.due("count(6) behind three", x.count(6), 3);
        Check.dueThrow(P05WearTest::wornOut, "wear() with all forgotten", Check.STATE, y -> y.wear());
        Check.due("use(2) behind it all", x.use(2), 5);

        CobblerCodes all = new CobblerCodes();
        all.useAll(0, 1, 32);
        Check.due("wear() of all 32", all.wear(), 32);
        Check.due("count(1) behind it", all.count(1), 1);
        wearsAheadOfTheLimit();
        Check.end();
    }

    private static CobblerCodes usedToWear() {
        return Check.used(2, 5, 5, 6, 6, 6, 7, 7, 7, 7);
    }

    private static CobblerCodes wornOut() {
        CobblerCodes x = usedToWear();
        x.wear();
        x.wear();
        x.wear();
        return x;
    }

    private static void wearsAheadOfTheLimit() {
        CobblerCodes x = Check.used(3, 3, 3);
        Check.due("wear() of an odd weight", x.wear(), 0);
        Check.due("told(3, 0), cut", x.told(3, 0), 1);
        Check.due("sole(0)", x.sole(0), 1);
        Check.due("sole(4)", x.sole(4), 2);
        Check.due("count(7)", x.count(7), 64);
    }
}
