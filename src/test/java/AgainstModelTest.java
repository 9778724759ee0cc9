import java.util.Arrays;
import java.util.Random;

/** All promises: long runs of calls, of the same seeds each time, against the plain model. */
public final class AgainstModelTest {
    private static final int RUNS = 900;
    // Rounds of four calls, and behind them 77 more: fewer than the 512 that are promised.
    private static final int ROUNDS = 100;
    private static final int DEAR_ROUNDS = 60;

    public static void main(String[] args) {
        for (int seed = 0; seed < RUNS; seed++) {
            run(seed);
        }
        Check.end();
    }

    private static void run(int seed) {
        Random random = new Random(seed);
        CobblerCodes x = new CobblerCodes();
        PlainModel m = new PlainModel();
        // Some runs use few lasts, some all; some ask dear questions, which the model answers slowly.
        int span = 1 + random.nextInt(32);
        boolean dear = seed % 16 == 0;
        for (int k = 0; k < (dear ? DEAR_ROUNDS : ROUNDS); k++) {
            String name = "seed " + seed + ", call " + k + ": ";
            change(name, random, x, m, span);
            Check.due(name + "digest()", x.digest(), m.digest());
            ask(name, random, x, m);
            if (dear) {
                askDear(name, random, x, m);
            } else {
                ask(name, random, x, m);
            }
        }
        askCodes("seed " + seed + ": ", x, m);
    }

    private static int likely(Random random, int span) {
        return random.nextInt(4) == 0 ? random.nextInt(32) : random.nextInt(1 + random.nextInt(span));
    }

    private static void change(String name, Random random, CobblerCodes x, PlainModel m, int span) {
        int kind = random.nextInt(40);
        if (kind < 28) {
            int last = likely(random, span);
            Check.due(name + "use(" + last + ")", x.use(last), m.use(last));
        } else if (kind < 34) {
            int from = random.nextInt(32);
            int step = likely(random, span);
            int many = 1 + random.nextInt(40);
            Check.due(name + "useAll()", x.useAll(from, step, many), m.useAll(from, step, many));
        } else if (kind < 37) {
            int limit = random.nextBoolean() ? 4 + random.nextInt(30) : 4 + random.nextInt(397);
            Check.due(name + "setLimit(" + limit + ")", x.setLimit(limit), m.setLimit(limit));
        } else if (kind == 37 && m.count(0) > 0) {
            Check.due(name + "wear()", x.wear(), m.wear());
        } else if (m.count(0) == 0) {
            Check.due(name + "wear()", Check.outcome(x, CobblerCodes::wear), "throws.IllegalStateException");
        }
    }

    private static void ask(String name, Random random, CobblerCodes x, PlainModel m) {
        int last = random.nextInt(32);
        int place = random.nextInt(m.places());
        int what = random.nextInt(4);
        int more = what + random.nextInt(3);
        int many = 1 + random.nextInt(30);
        int bits = random.nextInt(1 << many);
        switch (random.nextInt(10)) {
            case 0: Check.due(name + "cheapest()", x.cheapest(), m.cheapest()); break;
            case 1: Check.due(name + "saved()", x.saved(), m.saved()); break;
            case 2: Check.due(name + "mean()", x.mean(), m.mean()); break;
            case 3: Check.due(name + "sole(" + what + ")", x.sole(what), m.told(32, what)); break;
            case 4: Check.due(name + "node(" + place + ", " + what + ")", x.node(place, what), m.node(place, what)); break;
            case 5: Check.due(name + "node() behind the row", Check.outcome(x, y -> y.node(m.places(), 0)),
                "throws.IndexOutOfBoundsException"); break;
            case 6: Check.due(name + "count(" + (what + 4) + ")", x.count(what + 4), m.count(what + 4)); break;
            case 7: Check.due(name + "count(" + what + ")", x.count(what), m.count(what)); break;
            case 8: Check.due(name + "told(" + last + ", " + more + ")", x.told(last, more), m.told(last, more)); break;
            default: Check.due(name + "read(" + bits + ", " + many + ")", x.read(bits, many), m.read(bits, many));
        }
    }

    private static void askDear(String name, Random random, CobblerCodes x, PlainModel m) {
        int from = random.nextInt(32);
        int step = random.nextInt(32);
        int many = 1 + random.nextInt(40);
        String row = "(" + from + ", " + step + ", " + many + ")";
        Check.due(name + "would" + row, x.would(from, step, many), m.would(from, step, many));
        Check.due(name + "advise" + row, x.advise(from, step, many), m.advise(from, step, many));
    }

    private static void askCodes(String name, CobblerCodes x, PlainModel m) {
        for (int last = 0; last < 32; last++) {
            Check.due(name + "told(" + last + ", 2)", x.told(last, 2), m.told(last, 2));
            Check.due(name + "told(" + last + ", 3)", x.told(last, 3), m.told(last, 3));
        }
        for (int what = 0; what < 5; what++) {
            Check.due(name + "sole(" + what + ")", x.sole(what), m.told(32, what));
        }
        Check.due(name + "counts", Arrays.toString(Check.counts(x)), Arrays.toString(m.counts()));
    }
}
