import java.util.TreeSet;

/** Promise 13: the limit that had best be set. */
public final class P13AdviseTest {
    private static final int[] LIMITS = {8, 16, 32, 64, 128};
    private static final TreeSet<Integer> answers = new TreeSet<>();

    public static void main(String[] args) {
        Check.due("advise() of one use, all the same", new CobblerCodes().advise(0, 0, 1), 8);
        for (int past = 0; past < 6; past++) {
            for (int step = 0; step < 32; step += 3) {
                asTriedOut(past, 31 - step, step, 40);
                asTriedOut(past, step, step, 7 + step);
            }
        }
        Check.due("the answers that came up", answers.toString(), "[8, 16, 32, 64, 128]");
        refuses(-1, 0, 1, Check.INDEX);
        refuses(32, 0, 1, Check.INDEX);
        refuses(-1, 32, 0, Check.INDEX);
        refuses(Integer.MIN_VALUE, -1, 41, Check.INDEX);
        refuses(0, -1, 1, Check.ARGUMENT);
        refuses(0, 32, 1, Check.ARGUMENT);
        refuses(0, 0, 0, Check.ARGUMENT);
        refuses(31, 31, 41, Check.ARGUMENT);
        refuses(0, Integer.MAX_VALUE, Integer.MIN_VALUE, Check.ARGUMENT);
        Check.end();
    }

    private static CobblerCodes withPast(int past) {
        CobblerCodes x = new CobblerCodes();
        x.setLimit(past % 2 == 0 ? 400 : 100);
        for (int k = 0; k < past; k++) {
            x.useAll(5 * k, k + 1, 40);
            x.useAll(k, 0, 10 * k + 1 > 40 ? 40 : 10 * k + 1);
        }
        return x;
    }

    private static int bestByTrying(int past, int from, int step, int many) {
        int best = -1;
        int fewest = Integer.MAX_VALUE;
        for (int limit : LIMITS) {
            CobblerCodes y = withPast(past);
            y.setLimit(limit);
            int bits = y.useAll(from, step, many);
            if (bits < fewest) {
                fewest = bits;
                best = limit;
            }
        }
        return best;
    }

    private static void asTriedOut(int past, int from, int step, int many) {
        int best = bestByTrying(past, from, step, many);
        String name = "advise(" + from + ", " + step + ", " + many + ") with past " + past;
        Check.dueUnchanged(() -> withPast(past), name, x -> Check.due(name, x.advise(from, step, many), best));
        answers.add(best);
    }

    private static void refuses(int from, int step, int many, Class<?> type) {
        String name = "advise(" + from + ", " + step + ", " + many + ")";
        Check.dueThrow(() -> Check.used(8, 9, 9), name, type, x -> x.advise(from, step, many));
    }
}
