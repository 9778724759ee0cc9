import java.util.ArrayList;
import java.util.List;

/**
 * The document told once more, in the plainest words: nodes that know each other, codes as texts,
 * and what would be by doing all that was done once more. It shares nothing with the class.
 */
final class PlainModel {
    private static final class Node {
        private long weight;
        private int last = -1;
        private Node above;
        private final Node[] parts = new Node[2];
    }

    /** What changed the shop, to be done again: use, setLimit or wear, and a number. */
    private record Done(char what, int number) {
    }

    private final List<Done> done = new ArrayList<>();
    private List<Node> row = new ArrayList<>();
    private int limit = 64;
    private int uses;
    private int bits;
    private int exchanges;
    private int wears;

    PlainModel() {
        row.add(leaf(32, 1));
    }

    private static Node leaf(int last, long weight) {
        Node node = new Node();
        node.last = last;
        node.weight = weight;
        return node;
    }

    private static Node fork(Node first, Node second) {
        Node node = new Node();
        node.weight = first.weight + second.weight;
        hang(node, 0, first);
        hang(node, 1, second);
        return node;
    }

    private static void hang(Node above, int part, Node node) {
        above.parts[part] = node;
        node.above = above;
    }

    private Node find(int last) {
        for (Node node : row) {
            if (node.last == last) {
                return node;
            }
        }
        return null;
    }

    private static int part(Node node) {
        return node.above.parts[0] == node ? 0 : 1;
    }

    private static String code(Node node) {
        return node.above == null ? "" : code(node.above) + part(node);
    }

    private int bitsFor(int last) {
        Node node = find(last);
        return node == null ? code(find(32)).length() + 5 : code(node).length();
    }

    int use(int last) {
        done.add(new Done('u', last));
        int taken = bitsFor(last);
        Node node = find(last);
        if (node == null) {
            Node sole = find(32);
            int place = row.indexOf(sole);
            Node above = sole.above;
            int part = above == null ? 0 : part(sole);
            node = leaf(last, 0);
            Node fork = fork(sole, node);
            row.set(place, fork);
            if (above != null) {
                hang(above, part, fork);
            }
            row.add(sole);
            row.add(node);
        }
        while (node != null) {
            for (Node other : row) {
                if (other.weight == node.weight) {
                    if (other != node) {
                        changePlaces(node, other);
                    }
                    break;
                }
            }
            node.weight++;
            node = node.above;
        }
        uses++;
        bits += taken;
        if (row.get(0).weight >= limit) {
            wearDown();
        }
        return taken;
    }

    private void changePlaces(Node one, Node other) {
        exchanges++;
        int place = row.indexOf(one);
        int otherPlace = row.indexOf(other);
        Node above = one.above;
        Node otherAbove = other.above;
        int part = part(one);
        int otherPart = part(other);
        row.set(place, other);
        row.set(otherPlace, one);
        hang(above, part, other);
        hang(otherAbove, otherPart, one);
    }

    int useAll(int from, int step, int many) {
        int taken = 0;
        for (int k = 0; k < many; k++) {
            taken += use((from + k * step) % 32);
        }
        return taken;
    }

    int setLimit(int to) {
        done.add(new Done('l', to));
        int before = limit;
        limit = to;
        return before;
    }

    int wear() {
        done.add(new Done('w', 0));
        return wearDown();
    }

    private int wearDown() {
        wears++;
        int forgotten = 0;
        List<Node> heap = new ArrayList<>();
        heap.add(leaf(32, 1));
        for (int last = 0; last < 32; last++) {
            Node node = find(last);
            if (node != null && node.weight / 2 == 0) {
                forgotten++;
            } else if (node != null) {
                heap.add(leaf(last, node.weight / 2));
            }
        }
        List<Node> fromTheEnd = new ArrayList<>();
        while (heap.size() > 1) {
            Node second = takeLeast(heap);
            Node first = takeLeast(heap);
            fromTheEnd.add(second);
            fromTheEnd.add(first);
            heap.add(fork(first, second));
        }
        fromTheEnd.add(heap.get(0));
        row = new ArrayList<>();
        for (Node node : fromTheEnd) {
            row.add(0, node);
        }
        return forgotten;
    }

    private static Node takeLeast(List<Node> heap) {
        Node least = heap.get(0);
        for (Node node : heap) {
            if (node.weight < least.weight) {
                least = node;
            }
        }
        heap.remove(least);
        return least;
    }

    int told(int last, int what) {
        if (what == 5) {
            return bitsFor(last);
        }
        Node node = find(last);
        if (node == null) {
            return -1;
        }
        switch (what) {
            case 0: return (int) node.weight;
            case 1: return code(node).length();
            case 2: return number(code(node));
            case 3: return number(codeByLengths(last));
            default: return row.indexOf(node);
        }
    }

    private static int number(String code) {
        return code.isEmpty() ? 0 : Integer.parseInt(code, 2);
    }

    private String codeByLengths(int wanted) {
        String before = null;
        for (int length = 0; length <= 64; length++) {
            for (int last = 0; last <= 32; last++) {
                Node node = find(last);
                if (node != null && code(node).length() == length) {
                    String own = before == null ? "0".repeat(length) : next(before) + "0".repeat(length - before.length());
                    if (last == wanted) {
                        return own;
                    }
                    before = own;
                }
            }
        }
        throw new AssertionError("no leaf of " + wanted);
    }

    private static String next(String code) {
        String digits = Integer.toBinaryString(number(code) + 1);
        return "0".repeat(code.length() - digits.length()) + digits;
    }

    int places() {
        return row.size();
    }

    int node(int place, int what) {
        Node node = row.get(place);
        switch (what) {
            case 0: return (int) node.weight;
            case 1: return node.last;
            case 2: return row.indexOf(node.above);
            default: return row.indexOf(node.parts[0]);
        }
    }

    int count(int what) {
        return counts()[what];
    }

    int[] counts() {
        return new int[] {row.size() / 2, row.size(), (int) row.get(0).weight, uses, bits, exchanges, wears, limit};
    }

    int read(int number, int many) {
        String text = Integer.toBinaryString(number);
        text = "0".repeat(many - text.length()) + text;
        for (Node node : row) {
            if (node.last >= 0 && text.startsWith(code(node))) {
                int length = code(node).length();
                if (node.last < 32) {
                    return node.last;
                }
                return text.length() < length + 5 ? -1 : 100 + number(text.substring(length, length + 5));
            }
        }
        return -1;
    }

    int cheapest() {
        int best = -1;
        for (int last = 31; last >= 0; last--) {
            if (find(last) != null && (best < 0 || bitsFor(last) <= bitsFor(best))) {
                best = last;
            }
        }
        return best;
    }

    private PlainModel again() {
        PlainModel other = new PlainModel();
        for (Done one : done) {
            switch (one.what()) {
                case 'u': other.use(one.number()); break;
                case 'l': other.setLimit(one.number()); break;
                default: other.wear();
            }
        }
        return other;
    }

    int would(int from, int step, int many) {
        return again().useAll(from, step, many);
    }

    int advise(int from, int step, int many) {
        int best = 0;
        int fewest = Integer.MAX_VALUE;
        for (int tried = 8; tried <= 128; tried *= 2) {
            PlainModel other = again();
            other.setLimit(tried);
            int taken = other.useAll(from, step, many);
            if (taken < fewest) {
                fewest = taken;
                best = tried;
            }
        }
        return best;
    }

    int saved() {
        return 5 * uses - bits;
    }

    double mean() {
        return uses == 0 ? 0 : bits / (double) uses;
    }

    long digest() {
        long d = 1669;
        for (int what = 0; what < 8; what++) {
            d = d * 31 + count(what);
        }
        for (int place = 0; place < row.size(); place++) {
            for (int what = 0; what < 4; what++) {
                d = d * 31 + node(place, what);
            }
        }
        for (int last = 0; last < 32; last++) {
            d = d * 31 + bitsFor(last);
        }
        return d;
    }
}
