/** Promise 3: using lasts one behind the other. */
public final class P03UseAllTest {
    public static void main(String[] args) {
        CobblerCodes x = new CobblerCodes();
        Check.due("useAll(30, 1, 4)", x.useAll(30, 1, 4), 5 + 6 + 7 + 7);
        for (int last : new int[] {30, 31, 0, 1}) {
            Check.due("told(" + last + ", 0)", x.told(last, 0), 1);
        }
        Check.due("count(0) behind 30, 31, 0, 1", x.count(0), 4);
        isAsSingleUses(0, 0, 1, 64);
        isAsSingleUses(31, 31, 40, 64);
        isAsSingleUses(5, 7, 40, 8);
        isAsSingleUses(3, 0, 40, 4);
        isAsSingleUses(0, 1, 40, 400);
        refuses(-1, 0, 1, Check.INDEX);
        refuses(32, 0, 1, Check.INDEX);
        refuses(-1, 32, 0, Check.INDEX);
        refuses(Integer.MAX_VALUE, -1, 41, Check.INDEX);
        refuses(0, -1, 1, Check.ARGUMENT);
        refuses(0, 32, 1, Check.ARGUMENT);
        refuses(0, 0, 0, Check.ARGUMENT);
        refuses(31, 31, 41, Check.ARGUMENT);
        refuses(0, 0, -1, Check.ARGUMENT);
        refuses(0, Integer.MIN_VALUE, Integer.MAX_VALUE, Check.ARGUMENT);
        Check.end();
    }

    private static void isAsSingleUses(int from, int step, int many, int limit) {
        CobblerCodes x = Check.used(8, 9, 9);
        CobblerCodes y = Check.used(8, 9, 9);
        x.setLimit(limit);
        y.setLimit(limit);
        int bits = 0;
        int last = from;
        for (int k = 0; k < many; k++) {
            bits += y.use(last);
            last = (last + step) % 32;
        }
        String name = "useAll(" + from + ", " + step + ", " + many + ") at limit " + limit;
        Check.due(name, x.useAll(from, step, many), bits);
        Check.due("what there is behind " + name, Check.all(x), Check.all(y));
    }

    private static void refuses(int from, int step, int many, Class<?> type) {
        String name = "useAll(" + from + ", " + step + ", " + many + ")";
        Check.dueThrow(() -> Check.used(8, 9, 9), name, type, x -> x.useAll(from, step, many));
    }
}
