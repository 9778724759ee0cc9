import java.util.Arrays;

/** A cobbler who writes lasts in bits: often used ones by short codes, by a tree that follows their weights. */
public final class CobblerCodes {
    private static final int LASTS = 32;
    private static final int SOLE = 32;
    private static final int LEAVES = LASTS + 1;
    private static final int NODES = 2 * LEAVES - 1;
    private static final int PLAIN_BITS = 5;
    private static final int NONE = -1;

    private static final int FIRST_LIMIT = 64;
    private static final int LEAST_LIMIT = 4;
    private static final int MOST_LIMIT = 400;
    private static final int[] ADVISED_LIMITS = {8, 16, 32, 64, 128};

    private static final int MOST_IN_A_ROW = 40;
    private static final int MOST_BITS_TO_READ = 30;
    private static final int READ_PLAIN = 100;

    private static final int TOLD_BITS = 5;
    private static final int TOLD_FACTS = 6;
    private static final int LEAF_FACTS = 5;
    private static final int NODE_FACTS = 4;
    private static final int COUNTS = 8;
    private static final long FIRST_DIGEST = 1669L;

    private final Shop shop;
    // What would be is tried out in a second shop, made once, so that asking costs no room.
    private final Shop trial;

    public CobblerCodes() {
        shop = new Shop();
        trial = new Shop();
    }

    // ---- using

    public int use(int last) throws IndexOutOfBoundsException {
        requireIndex(last, LASTS);
        return shop.takeOne(last);
    }

    public int useAll(int from, int step, int many) throws IndexOutOfBoundsException, IllegalArgumentException {
        requireRow(from, step, many);
        return shop.takeRow(from, step, many);
    }

    public int setLimit(int limit) throws IllegalArgumentException {
        if (limit < LEAST_LIMIT || limit > MOST_LIMIT) {
            throw new IllegalArgumentException("the limit is not 4 to 400");
        }
        int before = shop.limit;
        shop.limit = limit;
        return before;
    }

    public int wear() throws IllegalStateException {
        if (shop.tree.knownLasts() == 0) {
            throw new IllegalStateException("no last is known");
        }
        return shop.tree.wearDown();
    }

    // ---- what there is

    public int told(int last, int what) throws IndexOutOfBoundsException {
        requireIndex(last, LASTS);
        requireIndex(what, TOLD_FACTS);
        return what == TOLD_BITS ? shop.bitsFor(last) : shop.tree.factOfLeaf(last, what);
    }

    public int sole(int what) throws IndexOutOfBoundsException {
        requireIndex(what, LEAF_FACTS);
        return shop.tree.factOfLeaf(SOLE, what);
    }

    public int node(int place, int what) throws IndexOutOfBoundsException {
        requireIndex(place, shop.tree.size);
        requireIndex(what, NODE_FACTS);
        return shop.tree.factOfNode(place, what);
    }

    public int count(int what) throws IndexOutOfBoundsException {
        requireIndex(what, COUNTS);
        return shop.factOfShop(what);
    }

    // ---- reading

    public int read(int bits, int many) throws IllegalArgumentException {
        if (many < 1 || many > MOST_BITS_TO_READ) {
            throw new IllegalArgumentException("there are not 1 to 30 bits");
        }
        if (bits < 0 || bits >= 1 << many) {
            throw new IllegalArgumentException("the bits do not fit into so many");
        }
        return shop.tree.firstWritten(bits, many);
    }

    // ---- what would be

    public int cheapest() {
        int best = NONE;
        for (int last = 0; last < LASTS; last++) {
            if (shop.tree.knows(last) && (best == NONE || shop.bitsFor(last) < shop.bitsFor(best))) {
                best = last;
            }
        }
        return best;
    }

    public int would(int from, int step, int many) throws IndexOutOfBoundsException, IllegalArgumentException {
        requireRow(from, step, many);
        trial.startLike(shop);
        return trial.takeRow(from, step, many);
    }

    public int advise(int from, int step, int many) throws IndexOutOfBoundsException, IllegalArgumentException {
        requireRow(from, step, many);
        int best = NONE;
        int fewest = 0;
        for (int limit : ADVISED_LIMITS) {
            trial.startLike(shop);
            trial.limit = limit;
            int bits = trial.takeRow(from, step, many);
            if (best == NONE || bits < fewest) {
                best = limit;
                fewest = bits;
            }
        }
        return best;
    }

    public int saved() {
        return shop.uses * PLAIN_BITS - shop.bits;
    }

    public double mean() {
        return shop.uses == 0 ? 0.0 : (double) shop.bits / (double) shop.uses;
    }

    public long digest() {
        long d = FIRST_DIGEST;
        for (int what = 0; what < COUNTS; what++) {
            d = d * 31 + shop.factOfShop(what);
        }
        int places = shop.tree.size;
        for (int place = 0; place < places; place++) {
            for (int what = 0; what < NODE_FACTS; what++) {
                d = d * 31 + shop.tree.factOfNode(place, what);
            }
        }
        for (int last = 0; last < LASTS; last++) {
            d = d * 31 + shop.bitsFor(last);
        }
        return d;
    }

    private static void requireIndex(int index, int many) throws IndexOutOfBoundsException {
        if (index < 0 || index >= many) {
            throw new IndexOutOfBoundsException("there is no such number");
        }
    }

    private static void requireRow(int from, int step, int many)
            throws IndexOutOfBoundsException, IllegalArgumentException {
        requireIndex(from, LASTS);
        if (step < 0 || step >= LASTS) {
            throw new IllegalArgumentException("the step is not 0 to 31");
        }
        if (many < 1 || many > MOST_IN_A_ROW) {
            throw new IllegalArgumentException("there are not 1 to 40 uses");
        }
    }

    // All rows are read and written by these two, so that no index goes unlooked at.

    private static int at(int[] row, int index) {
        return index >= 0 && index < row.length ? row[index] : NONE;
    }

    private static void put(int[] row, int index, int value) {
        if (index >= 0 && index < row.length) {
            row[index] = value;
        }
    }

    /** The tree, the limit, and what uses took. */
    private static final class Shop {
        private final Tree tree;
        private int limit;
        private int uses;
        private int bits;

        private Shop() {
            tree = new Tree();
            limit = FIRST_LIMIT;
        }

        /** What is counted is left aside, as no later bits hang on it. */
        private void startLike(Shop other) {
            tree.becomeLike(other.tree);
            limit = other.limit;
        }

        private int bitsFor(int last) {
            return tree.knows(last) ? tree.lengthOf(last) : tree.lengthOf(SOLE) + PLAIN_BITS;
        }

        private int takeOne(int last) {
            // The bits are those of the tree as the reader has it, ahead of this use.
            int taken = bitsFor(last);
            if (!tree.knows(last)) {
                tree.learn(last);
            }
            tree.makeHeavier(last);
            uses++;
            bits += taken;
            if (tree.weightOfRoot() >= limit) {
                tree.wearDown();
            }
            return taken;
        }

        private int takeRow(int from, int step, int many) {
            int taken = 0;
            for (int k = 0; k < many; k++) {
                taken += takeOne((from + k * step) % LASTS);
            }
            return taken;
        }

        private int factOfShop(int what) {
            switch (what) {
                case 0: return tree.knownLasts();
                case 1: return tree.size;
                case 2: return tree.weightOfRoot();
                case 3: return uses;
                case 4: return bits;
                case 5: return tree.exchanges;
                case 6: return tree.wears;
                default: return limit;
            }
        }
    }

    /**
     * The row of nodes. What is above belongs to the place and not to the node there,
     * so a node that comes to a place becomes the part that the other one was.
     */
    private static final class Tree {
        private final int[] weight;
        private final int[] leaf;
        private final int[] firstPart;
        private final int[] above;
        private final int[] placeOf;
        private final Heap heap;
        private int size;
        private int exchanges;
        private int wears;

        private Tree() {
            weight = new int[NODES];
            leaf = new int[NODES];
            firstPart = new int[NODES];
            above = new int[NODES];
            placeOf = new int[LEAVES];
            heap = new Heap();
            Arrays.fill(above, NONE);
            Arrays.fill(placeOf, NONE);
            size = 1;
            putNode(0, 1, SOLE, NONE);
        }

        private void becomeLike(Tree other) {
            System.arraycopy(other.weight, 0, weight, 0, NODES);
            System.arraycopy(other.leaf, 0, leaf, 0, NODES);
            System.arraycopy(other.firstPart, 0, firstPart, 0, NODES);
            System.arraycopy(other.above, 0, above, 0, NODES);
            System.arraycopy(other.placeOf, 0, placeOf, 0, LEAVES);
            size = other.size;
        }

        private boolean knows(int last) {
            return at(placeOf, last) != NONE;
        }

        private int knownLasts() {
            // Each last that is learnt adds two nodes to the sole's one.
            return (size - 1) / 2;
        }

        private int weightOfRoot() {
            return at(weight, 0);
        }

        private int factOfNode(int place, int what) {
            switch (what) {
                case 0: return at(weight, place);
                case 1: return at(leaf, place);
                case 2: return at(above, place);
                default: return at(firstPart, place);
            }
        }

        private int factOfLeaf(int which, int what) {
            int place = at(placeOf, which);
            if (place == NONE) {
                return NONE;
            }
            switch (what) {
                case 0: return at(weight, place);
                case 1: return lengthOf(which);
                case 2: return codeOf(which);
                case 3: return codeByLengths(which);
                default: return place;
            }
        }

        private int lengthOf(int which) {
            int length = 0;
            int fork = at(above, at(placeOf, which));
            while (fork != NONE && length < NODES) {
                length++;
                fork = at(above, fork);
            }
            return length;
        }

        private int codeOf(int which) {
            int code = 0;
            int place = at(placeOf, which);
            int fork = at(above, place);
            for (int bit = 0; fork != NONE && bit < NODES; bit++) {
                if (place != at(firstPart, fork)) {
                    code |= 1 << bit;
                }
                place = fork;
                fork = at(above, place);
            }
            return code;
        }

        /**
         * Each code ahead of this one takes its share of the numbers of this length, one for
         * each way to go on from it; so their sum is the number that counting up comes to.
         */
        private int codeByLengths(int which) {
            int code = 0;
            int length = lengthOf(which);
            for (int other = 0; other < LEAVES; other++) {
                if (at(placeOf, other) != NONE) {
                    int shorter = length - lengthOf(other);
                    if (shorter > 0 || shorter == 0 && other < which) {
                        code += 1 << shorter;
                    }
                }
            }
            return code;
        }

        private int firstWritten(int bits, int many) {
            int place = 0;
            int left = many;
            while (left > 0 && at(firstPart, place) != NONE) {
                left--;
                place = at(firstPart, place) + (bits >> left & 1);
            }
            int which = at(leaf, place);
            if (which != SOLE) {
                // A fork bears no last: there the bits ended amid a code.
                return which;
            }
            if (left < PLAIN_BITS) {
                return NONE;
            }
            return READ_PLAIN + (bits >> left - PLAIN_BITS & LASTS - 1);
        }

        private void putNode(int place, int itsWeight, int itsLeaf, int itsFirstPart) {
            put(weight, place, itsWeight);
            put(leaf, place, itsLeaf);
            put(firstPart, place, itsFirstPart);
            if (itsFirstPart == NONE) {
                put(placeOf, itsLeaf, place);
            } else {
                put(above, itsFirstPart, place);
                put(above, itsFirstPart + 1, place);
            }
        }

        private void learn(int last) {
            int fork = at(placeOf, SOLE);
            int parts = size;
            size += 2;
            putNode(fork, 1, NONE, parts);
            putNode(parts, 1, SOLE, NONE);
            putNode(parts + 1, 0, last, NONE);
        }

        private void makeHeavier(int last) {
            int place = at(placeOf, last);
            for (int steps = 0; place != NONE && steps < NODES; steps++) {
                int ahead = firstAsHeavyAs(place);
                if (ahead != place) {
                    exchange(place, ahead);
                    exchanges++;
                }
                put(weight, ahead, at(weight, ahead) + 1);
                place = at(above, ahead);
            }
        }

        private int firstAsHeavyAs(int place) {
            int sought = at(weight, place);
            for (int ahead = 0; ahead < place; ahead++) {
                if (at(weight, ahead) == sought) {
                    return ahead;
                }
            }
            return place;
        }

        /**
         * Neither hangs below the other: what is above a node still weighs more than it,
         * and what is below a node stands behind it in the row.
         */
        private void exchange(int place, int ahead) {
            int itsWeight = at(weight, place);
            int itsLeaf = at(leaf, place);
            int itsFirstPart = at(firstPart, place);
            putNode(place, at(weight, ahead), at(leaf, ahead), at(firstPart, ahead));
            putNode(ahead, itsWeight, itsLeaf, itsFirstPart);
        }

        private int wearDown() {
            int forgotten = fillHeap();
            size -= 2 * forgotten;
            for (int free = size - 1; free > 0; free -= 2) {
                int lightest = takeLightest(free);
                int next = takeLightest(free - 1);
                heap.add(lightest + next, NONE, free - 1);
            }
            takeLightest(0);
            wears++;
            return forgotten;
        }

        private int fillHeap() {
            int forgotten = 0;
            heap.clear();
            heap.add(1, SOLE, NONE);
            for (int last = 0; last < LASTS; last++) {
                if (knows(last)) {
                    int kept = at(weight, at(placeOf, last)) / 2;
                    if (kept > 0) {
                        heap.add(kept, last, NONE);
                    } else {
                        put(placeOf, last, NONE);
                        forgotten++;
                    }
                }
            }
            return forgotten;
        }

        private int takeLightest(int place) {
            int index = heap.lightest();
            int itsWeight = at(heap.weight, index);
            putNode(place, itsWeight, at(heap.leaf, index), at(heap.firstPart, index));
            heap.drop(index);
            return itsWeight;
        }
    }

    /** The nodes of a tree that is being built, in the order in which they came. */
    private static final class Heap {
        // No node weighs nothing here, so this marks those that were taken out.
        private static final int TAKEN = 0;

        private final int[] weight;
        private final int[] leaf;
        private final int[] firstPart;
        private int size;

        private Heap() {
            weight = new int[NODES];
            leaf = new int[NODES];
            firstPart = new int[NODES];
        }

        private void clear() {
            size = 0;
        }

        private void add(int itsWeight, int itsLeaf, int itsFirstPart) {
            put(weight, size, itsWeight);
            put(leaf, size, itsLeaf);
            put(firstPart, size, itsFirstPart);
            size++;
        }

        private int lightest() {
            int best = NONE;
            for (int index = 0; index < size; index++) {
                int its = at(weight, index);
                if (its != TAKEN && (best == NONE || its < at(weight, best))) {
                    best = index;
                }
            }
            return best;
        }

        private void drop(int index) {
            put(weight, index, TAKEN);
        }
    }
}
