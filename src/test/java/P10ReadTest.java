/** Promise 10: reading one last. */
public final class P10ReadTest {
    public static void main(String[] args) {
        CobblerCodes none = new CobblerCodes();
        read(none, 0, 1, -1);
        read(none, 15, 4, -1);
        read(none, 0, 5, 100);
        read(none, 31, 5, 131);
        read(none, 0b101101, 6, 100 + 0b10110);
        read(none, (1 << 30) - 1, 30, 131);
        read(none, 1 << 29, 30, 116);

        CobblerCodes x = worn();
        // 9 is 1, 4 is 00, the sole 01.
        read(x, 1, 1, 9);
        read(x, 0, 1, -1);
        read(x, 0, 2, 4);
        read(x, 1, 2, -1);
        read(x, 0b01_0000, 6, -1);
        read(x, 0b01_00101, 7, 105);
        read(x, 0b01_01001, 7, 109);
        read(x, 0b01_11111_0, 8, 131);
        read(x, 0b1_0101, 5, 9);
        read(x, 0b00_11, 4, 4);
        read(x, 0, 30, 4);
        read(x, (1 << 30) - 1, 30, 9);
        read(x, (1 << 29) - 1, 30, 131);
        Check.dueUnchanged(P10ReadTest::worn, "read()", y -> y.read(0, 30));

        int[][] wrong = {{0, 0}, {0, 31}, {0, -1}, {0, 32}, {0, 64}, {-1, 5}, {2, 1}, {32, 5}, {1 << 30, 30}, {-1, 0},
            {Integer.MAX_VALUE, 30}, {Integer.MIN_VALUE, 30}, {Integer.MAX_VALUE, 31}, {Integer.MIN_VALUE, 31},
            {0, Integer.MAX_VALUE}, {0, Integer.MIN_VALUE}};
        for (int[] c : wrong) {
            Check.dueThrow(P10ReadTest::worn, "read(" + c[0] + ", " + c[1] + ")", Check.ARGUMENT, y -> y.read(c[0], c[1]));
        }
        Check.end();
    }

    private static CobblerCodes worn() {
        CobblerCodes x = Check.used(9, 9, 4, 4);
        x.wear();
        return x;
    }

    private static void read(CobblerCodes x, int bits, int many, int want) {
        Check.due("read(" + bits + ", " + many + ")", x.read(bits, many), want);
    }
}
