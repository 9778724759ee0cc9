/** Promise 11: the cheapest last. */
public final class P11CheapestTest {
    public static void main(String[] args) {
        Check.due("cheapest() without one", new CobblerCodes().cheapest(), -1);
        Check.due("cheapest() of 31 alone", Check.used(31).cheapest(), 31);
        Check.due("cheapest() of 0 alone", Check.used(0).cheapest(), 0);
        Check.due("cheapest() behind 3, 7, 7, 7", Check.used(3, 7, 7, 7).cheapest(), 7);
        // All three have codes of the length 2 here, as the sole has.
        CobblerCodes even = Check.used(30, 1, 2);
        Check.due("told(30, 1)", even.told(30, 1), 2);
        Check.due("told(1, 1)", even.told(1, 1), 2);
        Check.due("told(2, 1)", even.told(2, 1), 2);
        Check.due("cheapest() of several", even.cheapest(), 1);
        CobblerCodes x = Check.used(3);
        x.wear();
        Check.due("cheapest() with all forgotten", x.cheapest(), -1);
        Check.end();
    }
}
