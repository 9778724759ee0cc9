/** Promise 15: the mean of the bits. */
public final class P15MeanTest {
    public static void main(String[] args) {
        Check.due("mean() without uses", new CobblerCodes().mean(), 0.0);
        Check.due("mean() of 5", Check.used(1).mean(), 5.0);
        Check.due("mean() of 5, 6", Check.used(1, 2).mean(), 5.5);
        Check.due("mean() of 5, 1, 1", Check.used(1, 1, 1).mean(), 7.0 / 3.0);
        CobblerCodes x = Check.used(1, 1, 1);
        x.wear();
        Check.due("mean() behind wear()", x.mean(), 7.0 / 3.0);
        x.would(0, 1, 40);
        Check.due("mean() behind would()", x.mean(), 7.0 / 3.0);
        x.useAll(1, 0, 4);
        Check.due("mean() behind a row", x.mean(), 11.0 / 7.0);
        Check.end();
    }
}
