/** How a text is read, and what its sums and its tests tell. */
final class Readings {
    /** Told in place of a fault, if what law() or orders() told does not go with it. */
    static final int AT_ODDS = -9;

    private Readings() {
    }

    /** The fault of a law; NONE: it stands. */
    static int lawFault(String text) {
        EelClerk x = new EelClerk();
        int told = Checks.law(x, text);
        int fault = x.fault();
        return told == (fault == EelClerk.NONE ? 0 : -6) && x.count(5) == (told == 0 ? 1 : 0) ? fault : AT_ODDS;
    }

    /** The fault of orders; NONE: they can be read, and were run or could not be. */
    static int ordersFault(String text) {
        EelClerk x = new EelClerk();
        int told = Checks.orders(x, text);
        int fault = x.fault();
        return (told == -6) == (fault != EelClerk.NONE) ? fault : AT_ODDS;
    }

    /** 0 -6- 1, levels 7 and 2, mud 3 and 5, day 40, mood 8. */
    static EelClerk two() {
        EelClerk x = new EelClerk();
        x.spring(7, 3);
        x.spring(2, 5);
        x.channel(0, 1, 6);
        x.terms(0, 40);
        x.terms(2, 8);
        return x;
    }

    /** What a sum of a law below 99 tells for the channel from 0 to 1; NONE: it is broken. */
    static int sum(String sum) {
        EelClerk x = two();
        Parishes.inForce(x, "weighs 99; weighs " + sum);
        return x.between(0, 1, 3) == 99 ? EelClerk.NONE : x.between(0, 1, 3);
    }

    /** What a test tells for that channel: 1, 0; NONE: it is broken. */
    static int test(String test) {
        EelClerk x = two();
        Parishes.inForce(x, "bars if " + test);
        int bars = x.between(0, 1, 4);
        Parishes.inForce(x, "bars if not (" + test + ")");
        // broken: neither that nor its contrary is so
        return bars == 0 && x.between(0, 1, 4) == 0 ? EelClerk.NONE : bars;
    }
}
