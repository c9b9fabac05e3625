/** Parishes that several tests begin with. */
final class Parishes {
    private Parishes() {
    }

    /** 0 -4- 1 -3- 2 -2- 3, and 0 -9- 2. */
    static EelClerk parish() {
        EelClerk x = new EelClerk();
        x.spring(0, 1);
        x.spring(3, 2);
        x.spring(5, 0);
        x.spring(9, 9);
        x.channel(0, 1, 4);
        x.channel(1, 2, 3);
        x.channel(0, 2, 9);
        x.channel(2, 3, 2);
        return x;
    }

    /** Springs of level 0 without mud, in a row, each so far from the next one. */
    static EelClerk inRow(int... fars) {
        EelClerk x = new EelClerk();
        x.spring(0, 0);
        for (int i = 0; i < fars.length; i++) {
            x.spring(0, 0);
            x.channel(i, i + 1, fars[i]);
        }
        return x;
    }

    /** The text becomes a law, and that is in force then; its number. */
    static int inForce(EelClerk x, String text) {
        int law = Checks.law(x, text);
        if (law < 0) {
            throw new IllegalArgumentException("no law: " + text);
        }
        x.force(law);
        return law;
    }
}
