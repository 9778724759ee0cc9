/** Promise 14: the bits that were saved. */
public final class P14SavedTest {
    public static void main(String[] args) {
        Check.due("saved() without uses", new CobblerCodes().saved(), 0);
        Check.due("saved() of 5 bits", Check.used(1).saved(), 0);
        Check.due("saved() of 5 + 6 bits", Check.used(1, 2).saved(), -1);
        Check.due("saved() of 5 + 1 + 1 bits", Check.used(1, 1, 1).saved(), 8);
        CobblerCodes x = Check.used(1, 1, 1);
        x.wear();
        x.setLimit(4);
        Check.due("saved() behind wear()", x.saved(), 8);
        x.useAll(1, 0, 4);
        Check.due("saved() behind a row of 4 more", x.saved(), 24);
        Check.end();
    }
}
