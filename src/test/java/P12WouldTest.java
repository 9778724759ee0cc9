/** Promise 12: what useAll() would tell. */
public final class P12WouldTest {
    public static void main(String[] args) {
        Check.due("would(30, 1, 4)", new CobblerCodes().would(30, 1, 4), 5 + 6 + 7 + 7);
        Check.due("would(5, 0, 10)", new CobblerCodes().would(5, 0, 10), 5 + 9);
        for (int limit : new int[] {4, 5, 9, 64, 400}) {
            for (int step = 0; step < 32; step += 3) {
                asUseAllTells(limit, 31 - step, step, 40);
                asUseAllTells(limit, step, 31 - step, 1 + step);
            }
        }
        refuses(-1, 0, 1, Check.INDEX);
        refuses(32, 0, 1, Check.INDEX);
        refuses(-1, 32, 0, Check.INDEX);
        refuses(Integer.MIN_VALUE, -1, 41, Check.INDEX);
        refuses(0, -1, 1, Check.ARGUMENT);
        refuses(0, 32, 1, Check.ARGUMENT);
        refuses(0, 0, 0, Check.ARGUMENT);
        refuses(31, 31, 41, Check.ARGUMENT);
        refuses(0, Integer.MAX_VALUE, Integer.MIN_VALUE, Check.ARGUMENT);
        Check.end();
    }

    private static void asUseAllTells(int limit, int from, int step, int many) {
        String name = "would(" + from + ", " + step + ", " + many + ") at limit " + limit;
        CobblerCodes x = withLimit(limit);
        int would = x.would(from, step, many);
        Check.due(name + " again", x.would(from, step, many), would);
        Check.due(name, would, x.useAll(from, step, many));
        Check.dueUnchanged(() -> withLimit(limit), name, y -> y.would(from, step, many));
    }

    private static CobblerCodes withLimit(int limit) {
        CobblerCodes x = Check.used(8, 9, 9, 30, 8, 12, 12, 12, 12);
        x.setLimit(limit);
        return x;
    }

    private static void refuses(int from, int step, int many, Class<?> type) {
        String name = "would(" + from + ", " + step + ", " + many + ")";
        Check.dueThrow(() -> Check.used(8, 9, 9), name, type, x -> x.would(from, step, many));
    }
}
