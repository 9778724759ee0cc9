/** Promise 8: what is told of the node at a place. */
public final class P08NodeTest {
    public static void main(String[] args) {
        node(new CobblerCodes(), 0, 1, 32, -1, -1);
        refuses(CobblerCodes::new, 1, 0);
        CobblerCodes x = grown();
        node(x, 0, 5, -1, -1, 1);
        node(x, 1, 3, 7, 0, -1);
        node(x, 2, 2, -1, 0, 3);
        node(x, 3, 1, 32, 2, -1);
        node(x, 4, 1, 3, 2, -1);
        refuses(P08NodeTest::grown, 5, 0);
        refuses(P08NodeTest::grown, -1, 0);
        refuses(P08NodeTest::grown, 0, -1);
        refuses(P08NodeTest::grown, 0, 4);
        refuses(P08NodeTest::grown, 5, 4);
        refuses(P08NodeTest::grown, Integer.MIN_VALUE, 0);
        refuses(P08NodeTest::grown, Integer.MAX_VALUE, Integer.MAX_VALUE);
        node(worn(), 2, 1, 32, 0, -1);
        refuses(P08NodeTest::worn, 3, 0);
        refuses(P08NodeTest::worn, 4, 3);
        fullRow();
        Check.end();
    }

    private static CobblerCodes grown() {
        return Check.used(7, 3, 7, 7);
    }

    private static CobblerCodes worn() {
        CobblerCodes x = grown();
        x.wear();
        return x;
    }

    private static CobblerCodes full() {
        CobblerCodes x = new CobblerCodes();
        x.useAll(0, 1, 32);
        return x;
    }

    private static void node(CobblerCodes x, int place, int... wants) {
        for (int what = 0; what < wants.length; what++) {
            Check.due("node(" + place + ", " + what + ")", x.node(place, what), wants[what]);
        }
    }

    private static void refuses(Check.Maker maker, int place, int what) {
        Check.dueThrow(maker, "node(" + place + ", " + what + ")", Check.INDEX, x -> x.node(place, what));
    }

    private static void fullRow() {
        CobblerCodes x = full();
        Check.due("count(1) with all known", x.count(1), 65);
        Check.due("node(64, 3)", x.node(64, 3), -1);
        refuses(P08NodeTest::full, 65, 0);
        for (int place = 0; place < 65; place++) {
            int first = x.node(place, 3);
            if (first >= 0) {
                Check.due("above the first part of " + place, x.node(first, 2), place);
                Check.due("above the second part of " + place, x.node(first + 1, 2), place);
                Check.due("node(" + place + ", 0)", x.node(place, 0), x.node(first, 0) + x.node(first + 1, 0));
            }
        }
    }
}
