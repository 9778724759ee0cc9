/** Promise 6: what is told of a last. */
public final class P06ToldTest {
    public static void main(String[] args) {
        CobblerCodes x = worn();
        // The row is 3:/1 2:/3 1:9 1:4 1:S, so 9 is 1, 4 is 00, the sole 01.
        told(x, 9, 1, 1, 1, 0, 2, 1);
        told(x, 4, 1, 2, 0, 2, 3, 2);
        told(x, 0, -1, -1, -1, -1, -1, 7);
        told(x, 31, -1, -1, -1, -1, -1, 7);

        CobblerCodes y = Check.used(7, 3, 7, 7);
        // The row is 5:/1 3:7 2:/3 1:S 1:3, so 7 is 0, the sole 10, 3 is 11; 3 comes ahead of the sole by its number.
        told(y, 7, 3, 1, 0, 0, 1, 1);
        told(y, 3, 1, 2, 3, 2, 4, 2);
        told(y, 5, -1, -1, -1, -1, -1, 7);

        told(Check.used(0), 0, 1, 1, 1, 0, 2, 1);
        told(Check.used(31), 31, 1, 1, 1, 0, 2, 1);
        wrongOnes();
        Check.end();
    }

    private static CobblerCodes worn() {
        CobblerCodes x = Check.used(9, 9, 4, 4);
        x.wear();
        return x;
    }

    private static void told(CobblerCodes x, int last, int... wants) {
        for (int what = 0; what < wants.length; what++) {
            Check.due("told(" + last + ", " + what + ")", x.told(last, what), wants[what]);
        }
    }

    private static void wrongOnes() {
        int[][] calls = {{-1, 0}, {32, 0}, {0, -1}, {0, 6}, {31, 6}, {32, 6}, {-1, -1}, {9, 7},
            {Integer.MIN_VALUE, 0}, {0, Integer.MAX_VALUE}, {Integer.MAX_VALUE, Integer.MIN_VALUE}};
        for (int[] c : calls) {
            Check.dueThrow(P06ToldTest::worn, "told(" + c[0] + ", " + c[1] + ")", Check.INDEX, x -> x.told(c[0], c[1]));
        }
    }
}
