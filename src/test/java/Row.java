/** The row of a shop, read once by fewer than 270 calls of node(), and what can be told of the tree from it alone. */
final class Row {
    final int places;
    final int[] weight;
    final int[] last;
    final int[] above;
    final int[] first;

    Row(CobblerCodes x) {
        places = x.count(1);
        weight = facts(x, 0);
        last = facts(x, 1);
        above = facts(x, 2);
        first = facts(x, 3);
    }

    private int[] facts(CobblerCodes x, int what) {
        int[] facts = new int[places];
        for (int place = 0; place < places; place++) {
            facts[place] = x.node(place, what);
        }
        return facts;
    }

    /** The place of the leaf of this last (32 for the sole), -1 without one. */
    int placeOf(int wanted) {
        for (int place = 0; place < places; place++) {
            if (last[place] == wanted) {
                return place;
            }
        }
        return -1;
    }

    boolean knows(int wanted) {
        return placeOf(wanted) >= 0;
    }

    /** The way from the root to the leaf of this last, as a text of 0 and 1, gone from the leaf upwards. */
    String codeOf(int wanted) {
        StringBuilder way = new StringBuilder();
        for (int at = placeOf(wanted); above[at] >= 0; at = above[at]) {
            way.insert(0, first[above[at]] == at ? '0' : '1');
        }
        return way.toString();
    }

    static int number(String bits) {
        return bits.isEmpty() ? 0 : Integer.parseInt(bits, 2);
    }
}
