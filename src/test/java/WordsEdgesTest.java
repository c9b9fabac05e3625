import java.io.IOException;

/** The edges that the words I, III and IV name, sentence by sentence; those of II are in TextsEdgesTest. */
public final class WordsEdgesTest {
    private static final int MIN = Integer.MIN_VALUE;
    private static final int MAX = Integer.MAX_VALUE;
    private static final String EDGES = "\\.\\.|at most|at first|FAULT at|NONE|-\\d|[Bb]eyond|divided|lowest|fewest|first|alone"
            + "|without|nothing|[Nn]ever|none|latest|cut\\b|blanks|too\\b|once|as it was|none such|no more|ahead";
    private static Edges e;

    public static void main(String[] args) throws IOException {
        e = new Edges();
        springs();
        channels();
        eel();
        heard();
        terms();
        sets();
        order();
        passes();
        swims();
        gates();
        stirs();
        days();
        soon();
        never();
        centre();
        round();
        bound();
        share();
        sea();
        canBe();
        listen();
        few();
        compared();
        yearsSeed();
        yearsDay();
        yearsDraws();
        yearsCanBe();
        rows();
        images();
        constants();
        for (String place : new String[] {"I", "III", "IV"}) {
            e.allTold(place, EDGES);
        }
        e.close("WordsEdgesTest");
    }

    private static void due(String call, long got, long want) {
        e.due(call, got, want);
    }

    private static EelClerk nine() {
        EelClerk x = new EelClerk();
        for (int i = 0; i < 9; i++) {
            x.spring(i, 9 - i);
        }
        return x;
    }

    // I

    private static void springs() {
        e.words("I", "SPRINGS 0 .. 8 (9 at most)");
        EelClerk x = nine();
        due("nine", x.count(0), 9);
        due("the first", x.of(0, 1), 9);
        due("the last", x.of(8, 1), 1);
        due("a tenth", x.spring(0, 0), -5);
        due("nine still", x.count(0), 9);
        due("no spring 9", x.of(9, 1), -1);
        due("nor a channel to it", x.channel(0, 9, 1), -2);
        e.words("I", "LEVEL 0 .. 9, MUD 0 .. 9");
        EelClerk y = new EelClerk();
        due("the lowest", y.spring(0, 9), 0);
        due("the highest", y.spring(9, 0), 1);
        due("level 0", y.of(0, 0), 0);
        due("mud 9", y.of(0, 1), 9);
        due("level 9", y.of(1, 0), 9);
        EelClerk z = new EelClerk();
        z.spring(9, 1);
        z.spring(4, 2);
        due("the first's level", z.of(0, 0) * 10 + z.of(1, 0), 94);
        due("the first's mud", z.of(0, 1) * 10 + z.of(1, 1), 12);
        due("mud 0", y.of(1, 1), 0);
        due("level 10", y.spring(10, 0), -1);
        due("level -1", y.spring(-1, 0), -1);
        due("mud 10", y.spring(0, 10), -1);
        due("mud -1", y.spring(0, -1), -1);
        e.words("I", "SPRING 0 is the SEA");
        EelClerk row = Parishes.inRow(1, 1);
        row.swim(1);
        due("to the first", row.sea(0, 1), 0);
        EelClerk one = Parishes.inRow();
        due("the only one", one.sea(0, -1), 0);
    }

    private static void channels() {
        e.words("I", "A CHANNEL between two SPRINGS, both ways, FAR 1 .. 50, or none (at first), SHUT or not.");
        EelClerk x = nine();
        due("none at first", x.count(2), 0);
        due("none at first", x.between(7, 8, 0), 0);
        due("1", x.channel(8, 7, 1), 0);
        due("both ways", x.between(7, 8, 0) * 100 + x.between(8, 7, 0), 101);
        due("both ways", x.soon(7, 8) * 100 + x.soon(8, 7), 101);
        due("50", x.channel(7, 8, 50), 1);
        due("51", x.channel(7, 8, 51), -1);
        due("-1", x.channel(7, 8, -1), -1);
        due("50 still", x.between(8, 7, 0), 50);
        due("not shut", x.between(8, 7, 1), 0);
        x.gate(7, 8);
        due("shut, both ways", x.between(7, 8, 1) * 10 + x.between(8, 7, 1), 11);
        due("none", x.channel(8, 7, 0), 50);
        due("none", x.count(2), 0);
        x.channel(0, 1, 2);
        x.channel(7, 8, 3);
        x.channel(0, 8, 4);
        due("each for itself", x.between(0, 1, 0) * 100 + x.between(8, 7, 0) * 10 + x.between(8, 0, 0), 234);
    }

    private static void eel() {
        e.words("I", "The EEL is AT a SPRING (0 at first, without SPRINGS, too).");
        EelClerk x = new EelClerk();
        due("without springs", x.count(1), 0);
        x.spring(5, 5);
        x.spring(5, 5);
        due("at first", x.count(1), 0);
        Checks.orders(x, "stir 1 to at");
        due("at first, in orders", x.of(1, 1), 0);
        EelClerk dry = new EelClerk();
        due("without springs, in orders", Checks.orders(dry, "pass if at = 0"), 1);
    }

    private static void heard() {
        e.words("I", "HEARD, 6 at most");
        EelClerk x = Parishes.parish();
        for (int i = 1; i <= 6; i++) {
            due("heard " + i, x.heard(2, 9), i);
        }
        due("a seventh", x.heard(3, 0), -5);
        due("six", x.count(4), 6);
        due("the seventh does not count", x.since(2), 9);
        x.forget();
        for (int i = 1; i <= 5; i++) {
            x.heard(2, 9);
        }
        x.heard(2, 10);
        due("the sixth counts", x.canBe(), 0);
    }

    private static void terms() {
        e.words("I", "0 DAY 0 .. 999 (0 at first), 1 SLIPS 0 .. 10 (1), 2 MOOD 0 .. 9 (0)");
        EelClerk x = new EelClerk();
        int[] first = {0, 1, 0};
        int[] tops = {999, 10, 9};
        for (int what = 0; what < 3; what++) {
            due("at first: " + what, x.count(14 + what), first[what]);
            due("at first: " + what, x.terms(what, 0), first[what]);
            due("below: " + what, x.terms(what, -1), -1);
            due("the lowest: " + what, x.terms(what, tops[what]), 0);
            due("above: " + what, x.terms(what, tops[what] + 1), -1);
            due("the highest: " + what, x.count(14 + what), tops[what]);
        }
        due("no term 3", x.terms(3, 1), -1);
        due("no term -1", x.terms(-1, 1), -1);
    }

    private static void sets() {
        e.words("I", "Sets are told as bits.");
        EelClerk x = nine();
        x.channel(0, 8, 5);
        due("all but 0 and 8", x.never(0), 254);
        due("all but 8 and 0", x.never(8), 254);
        due("8 alone", x.round(256, 0), 8);
        due("0 and 8", x.share(257, 8), 8);
        due("all", x.canBe(), 511);
        due("all but the last", x.bound(0, 8, 1), 1);
        due("the highest is bit 8", x.bound(8, 0, 1), 256);
    }

    private static void order() {
        e.words("I", "REFUSED by: -1 a number that can't be; -2 there is no such SPRING, LAW, IMAGE; -3 it can't be by what "
                + "stands; -5 no room; -6 a TEXT, a ROW that can't be. The first of these in that order.");
        EelClerk x = nine();
        for (int i = 0; i < 6; i++) {
            x.heard(0, 0);
            Checks.law(x, "bars if 1=2");
        }
        due("-1 ahead of -2: channel", x.channel(0, 9, 51), -1);
        due("-1 ahead of -2: one alone", x.channel(9, 9, 1), -1);
        due("-1 ahead of -2: gate", x.gate(9, 9), -1);
        due("-1 ahead of -2: stir", x.stir(9, 10), -1);
        due("-1 ahead of -2, -5: heard", x.heard(9, 1000), -1);
        due("-1 ahead of -2: back", x.back(2), -1);
        due("-1 ahead of -3: gate", x.gate(0, 0), -1);
        due("-1 ahead of -3: years", new EelClerk().years(0, 0), -1);
        due("-1 ahead of -5: spring", x.spring(10, 0), -1);
        due("-1 ahead of -5: heard", x.heard(0, -1), -1);
        due("-2 ahead of -3: swim", x.swim(9), -2);
        due("-2 ahead of -3: gate", x.gate(0, 9), -2);
        due("-2 ahead of -3: stir", x.stir(9, 0), -2);
        due("-2 ahead of -5: heard", x.heard(9, 0), -2);
        due("-5 ahead of -6: law", x.law(), -5);
        int[] counts = {9, 4, 0, 1, 0};
        for (int i = 0; i < 5; i++) {
            due("counted by the first alone: " + i, x.count(8 + i), counts[i]);
        }
        due("a spring's number below 0", x.swim(-1), -2);
        due("a law's number below 0", x.force(-2), -2);
        due("an image that was not kept", x.back(1), -2);
        due("what stands", x.swim(0), -3);
        due("no room for a spring", x.spring(0, 0), -5);
        due("a text", x.orders(), -6);
        due("a row", x.row(), -6);
    }

    // III

    private static void passes() {
        e.words("III", "if that is not SHUT and it is not BARRED");
        EelClerk x = Parishes.inRow(5);
        due("neither", x.soon(0, 1), 5);
        x.gate(0, 1);
        due("shut", x.soon(0, 1), -1);
        Parishes.inForce(x, "bars if from = 0");
        due("both", x.soon(0, 1), -1);
        x.gate(0, 1);
        due("barred", x.soon(0, 1), -1);
        due("not barred back", x.soon(1, 0), 5);
        x.gate(0, 1);
        due("shut back", x.soon(1, 0), -1);
    }

    private static void swims() {
        e.words("III", "the EEL goes to a SPRING to which a word PASSES from where it is: told how long that TAKES");
        EelClerk x = Parishes.inRow(5, 5);
        due("no channel, though there is a way", x.swim(2), -3);
        Parishes.inForce(x, "takes 99 if to = 1; takes 1 if to = 0; bars if from = 1 and to = 2");
        due("takes", x.swim(1), 99);
        due("barred", x.swim(2), -3);
        due("back", x.swim(0), 1);
        x.gate(0, 1);
        due("shut", x.swim(1), -3);
        due("where it is", x.count(1), 0);
        due("no day passes", x.count(14), 0);
    }

    private static void gates() {
        e.words("III", "A GATE: a CHANNEL is SHUT, if it was not, else no more.");
        EelClerk x = Parishes.inRow(5);
        for (int i = 1; i <= 5; i++) {
            due("gate " + i, x.gate(i % 2, 1 - i % 2), i % 2);
            due("shut " + i, x.count(3), i % 2);
            due("as far as it was", x.between(0, 1, 0), 5);
        }
    }

    private static void stirs() {
        e.words("III", "To STIR: a SPRING has other MUD.");
        EelClerk x = nine();
        due("to 0", x.stir(8, 0), 1);
        due("to 9", x.stir(8, 9), 0);
        due("to the same", x.stir(8, 9), -3);
        for (int i = 0; i < 8; i++) {
            due("the others", x.of(i, 1), 9 - i);
        }
    }

    private static void days() {
        e.words("III", "(all asked as it was ahead); it is the next DAY");
        EelClerk x = Parishes.inRow(1, 1);
        Parishes.inForce(x, "settles day");
        x.terms(0, 3);
        due("all are other", x.pass(), 3);
        due("as the day was", x.of(0, 1) * 100 + x.of(1, 1) * 10 + x.of(2, 1), 333);
        due("the next day", x.count(14), 4);
        due("what it would settle to then", x.of(0, 2), 4);
        e.words("III", "(at 999 it can't be)");
        EelClerk y = new EelClerk();
        y.terms(0, 998);
        due("at 998", y.pass(), 0);
        due("it is 999", y.count(14), 999);
        due("at 999", y.pass(), -3);
        due("it is 999", y.count(14), 999);
        due("by orders", Checks.orders(y, "pass"), -3);
    }

    private static void soon() {
        e.words("III", "the fewest DAYS in all that a word TAKES through CHANNELS it PASSES, one behind the other (0 to itself)");
        EelClerk x = Parishes.inRow(5);
        x.spring(0, 0);
        due("to itself", x.soon(0, 0), 0);
        due("to itself, without channels", x.soon(2, 2), 0);
        Parishes.inForce(x, "bars");
        due("to itself, barred", x.soon(1, 1), 0);
        EelClerk far = Parishes.inRow(50, 50, 50, 50, 50, 50, 50, 50);
        due("eight of 50", far.soon(0, 8), 400);
        Parishes.inForce(far, "takes 99");
        due("eight of 99", far.soon(8, 0), 792);
        e.words("III", "The WAY: that of so few DAYS, the first as a row of SPRINGS.");
        EelClerk y = Parishes.inRow(2, 2, 2);
        y.channel(0, 2, 4);
        y.channel(1, 3, 4);
        y.channel(0, 3, 6);
        due("0 1 2 3 ahead of 0 1 3, 0 2 3, 0 3", y.way(0, 3, 1) * 100 + y.way(0, 3, 2) * 10 + y.way(0, 3, 3), 123);
        due("3 0 ahead of 3 1 0, 3 2 0, 3 2 1 0", y.way(3, 0, 1) * 10 + y.way(3, 0, 2), -1);
        y.channel(0, 3, 7);
        due("then 3 1 0", y.way(3, 0, 1) * 10 + y.way(3, 0, 2), 10);
        y.channel(0, 3, 5);
        due("fewer days ahead of the first", y.way(0, 3, 1), 3);
    }

    private static void never() {
        e.words("III", "NEVER from a SPRING: those to which it does not come.");
        EelClerk x = Parishes.inRow(1, 1);
        x.spring(0, 0);
        due("one apart", x.never(0), 8);
        due("from the one apart", x.never(3), 7);
        Parishes.inForce(x, "bars");
        due("all but itself", x.never(1), 13);
    }

    private static void centre() {
        e.words("III", "the SPRING from which the word comes to all others, to the last of them SOONEST; the lowest "
                + "(one alone: itself, in 0 DAYS)");
        EelClerk one = Parishes.inRow();
        due("one alone", one.centre(0), 0);
        due("in 0 days", one.centre(1), 0);
        EelClerk two = Parishes.inRow(7);
        due("the lower of two", two.centre(0), 0);
        due("in as many days", two.centre(1), 7);
        EelClerk four = Parishes.inRow(3, 3, 3);
        due("the lower of the middle two", four.centre(0), 1);
        Parishes.inForce(four, "bars if from = 1 and to = 0");
        due("from which it comes to all", four.centre(0), 0);
        due("to the last", four.centre(1), 9);
        Parishes.inForce(four, "bars if to = 3");
        due("from the one to which it never comes", four.centre(0), 3);
        four.spring(0, 0);
        due("one apart", four.centre(0), -1);
    }

    private static void round() {
        e.words("III", "from where the EEL is by all of them, in whatever order, each come to from the one ahead as SOON as can "
                + "be (one by which it comes on the way counts in its turn alone), and back to where it is: the fewest DAYS; "
                + "the first as a row of them");
        EelClerk x = new EelClerk();
        x.spring(0, 0);
        x.spring(0, 0);
        x.spring(0, 0);
        x.channel(0, 2, 1);
        x.channel(2, 1, 1);
        due("0 1 2 0 is as short as 0 2 1 0", x.round(6, -1), 4);
        due("the first as a row, though it comes by 2 on the way to 1", x.round(6, 0) * 10 + x.round(6, 1), 12);
        Parishes.inForce(x, "takes 5 if from = 2 and to = 0");
        due("back as soon as can be from there", x.round(6, -1), 8);
        x.channel(1, 0, 2);
        due("in whatever order", x.round(6, -1), 4);
        due("to the last ahead", x.round(6, 0) * 10 + x.round(6, 1), 21);
        Parishes.inForce(x, "bars if to = 0");
        due("no way back", x.round(6, -1), -1);
        due("no way back, none told", x.round(0, -1), 0);
        EelClerk y = Parishes.parish();
        y.swim(2);
        due("from where it is", y.round(2, -1), 6);
        due("and back", y.round(11, -1), 18);
        due("the first as a row", y.round(11, 0) * 100 + y.round(11, 1) * 10 + y.round(11, 2), 13);
    }

    private static void bound() {
        e.words("III", "what CHANNELS WEIGH that are not SHUT, each from one of them to one that is none of them, is least "
                + "together; the lowest such set, as bits");
        EelClerk x = Parishes.inRow(1, 1, 1);
        due("the lowest of three sets", x.bound(0, 3, 1), 1);
        due("the lowest of three sets, back", x.bound(3, 0, 1), 8);
        x.gate(2, 3);
        due("a shut one weighs nothing", x.bound(0, 3, 0), 0);
        due("its set", x.bound(0, 3, 1), 7);
        x.spring(0, 0);
        due("one apart is not among them, if it needn't be", x.bound(0, 3, 1), 7);
        Parishes.inForce(x, "weighs 99; weighs 0 if from = 1 and to = 2; bars");
        due("barred ones weigh", x.bound(2, 0, 0), 99);
        due("from one to one that is none of them alone", x.bound(0, 2, 0), 0);
        due("its set", x.bound(0, 2, 1), 3);
        EelClerk all = nine();
        for (int one = 0; one < 9; one++) {
            for (int other = 0; other < one; other++) {
                all.channel(one, other, 1);
            }
        }
        Parishes.inForce(all, "weighs 99");
        due("the heaviest there can be", all.bound(0, 8, 0), 792);
    }

    private static void share() {
        e.words("III", "of told SPRINGS that from which the word comes to a SPRING SOONEST (from itself in 0 DAYS); the lowest");
        EelClerk x = Parishes.inRow(3, 3);
        due("itself", x.share(7, 1), 1);
        due("the lowest", x.share(5, 1), 0);
        due("the only one", x.share(4, 0), 2);
        Parishes.inForce(x, "takes 2 if from = 2");
        due("soonest", x.share(5, 1), 2);
        x.gate(1, 2);
        due("itself, alone", x.share(7, 2), 2);
    }

    private static void sea() {
        e.words("III", "the fewest DAYS in all from where the EEL is to SPRING 0 through CHANNELS that are not BARRED, k of them "
                + "at most SHUT (each time one is gone through it counts); the first such as a row of SPRINGS");
        EelClerk x = Parishes.inRow(1, 1, 9);
        x.channel(0, 3, 50);
        x.swim(3 - 2);
        x.swim(2);
        x.swim(3);
        x.gate(0, 1);
        x.gate(1, 2);
        due("none of two", x.sea(0, -1), 50);
        due("one of two", x.sea(1, -1), 50);
        due("two of two", x.sea(2, -1), 11);
        due("the way by two", x.sea(2, 1) * 100 + x.sea(2, 2) * 10 + x.sea(2, 3), 210);
        x.gate(0, 3);
        due("none of three", x.sea(0, -1), -1);
        due("one of three", x.sea(1, -1), 50);
        due("two of three", x.sea(2, -1), 11);
        x.channel(0, 3, 11);
        due("as soon: the first as a row", x.sea(2, 1), 0);
        x.channel(0, 3, 50);
        Parishes.inForce(x, "bars if from = 1 and to = 0");
        due("barred", x.sea(9, -1), 50);
        Parishes.inForce(x, "bars if to = 0");
        due("all barred", x.sea(9, -1), -1);
        Parishes.inForce(x, "bars if from = 0");
        due("the other way alone", x.sea(9, -1), 11);
        EelClerk y = Parishes.inRow(5, 5, 1);
        y.channel(0, 2, 1);
        y.swim(2);
        y.swim(3);
        y.gate(2, 3);
        y.gate(0, 2);
        due("one is gone through, so no second", y.sea(1, -1), 11);
        due("the row by one", y.sea(1, 1) * 100 + y.sea(1, 2) * 10 + y.sea(1, 3), 210);
        due("both", y.sea(2, -1), 2);
        due("the row by both", y.sea(2, 1) * 100 + y.sea(2, 2) * 10 + y.sea(2, 3), 199);
    }

    private static void canBe() {
        e.words("III", "on a DAY 0 or more so that all that was HEARD is as SOON as can be");
        EelClerk x = Parishes.inRow(5, 5);
        x.heard(0, 4);
        due("day -1 can't be", x.canBe(), 1);
        x.forget();
        x.heard(0, 5);
        due("day 0 can be", x.canBe(), 3);
        due("day 0", x.since(1), 0);
        x.heard(2, 5);
        due("all of it", x.canBe(), 2);
        x.forget();
        x.heard(0, 999);
        due("the last day", x.since(0) * 1000 + x.since(2), 999989);
        x.heard(0, 998);
        due("not sooner than it was heard first", x.canBe(), 0);
        e.words("III", "(one from which the word never comes to one that HEARD it: not)");
        EelClerk y = Parishes.inRow(5, 5);
        y.gate(1, 2);
        due("nothing heard", y.canBe(), 7);
        y.heard(2, 900);
        due("never", y.canBe(), 4);
        y.heard(0, 900);
        due("never the one or the other", y.canBe(), 0);
        e.words("III", "SINCE: that DAY.");
        EelClerk z = Parishes.inRow(5, 5);
        z.terms(0, 999);
        z.heard(2, 10);
        due("10 days ahead", z.since(0), 0);
        due("on that day", z.since(2), 10);
    }

    private static void listen() {
        e.words("III", "from the most it comes on one DAY (or never) that are as few as can be; the lowest "
                + "(if nothing was HEARD, all begin on DAY 0; DAYS beyond 999, too)");
        EelClerk x = Parishes.inRow(3, 3);
        due("nothing heard: from each on another day", x.listen(0), 0);
        due("one left", x.listen(1), 1);
        Parishes.inForce(x, "bars if from = 1 and to = 0 or from = 0 and to = 1");
        due("never from two to 0, from one to 1", x.listen(0), 1);
        due("one left", x.listen(1), 1);
        EelClerk apart = Parishes.inRow(3, 3);
        apart.gate(0, 1);
        apart.gate(1, 2);
        due("never from two to each", x.status() + apart.listen(1), 2);
        due("the lowest", apart.listen(0), 0);
        EelClerk star = new EelClerk();
        for (int i = 0; i < 4; i++) {
            star.spring(0, 0);
        }
        star.channel(0, 1, 5);
        star.channel(0, 2, 5);
        star.channel(0, 3, 6);
        due("at 0: from two on day 5; at 1: 5, 0, 10, 11", star.listen(0), 1);
        EelClerk late = Parishes.inRow(50, 50);
        Parishes.inForce(late, "takes 99");
        late.heard(0, 999);
        due("days 1098, 1197 are not one day", late.listen(0), 2);
        due("days 999, 999, 999 are", late.listen(1), 1);
        EelClerk few = Parishes.inRow(3, 3);
        few.heard(0, 0);
        due("from one alone", few.listen(1) * 10 + few.listen(0), 10);
    }

    private static void few() {
        e.words("III", "string by string, by how many did, each part times the rest by ten and times SLIPS by ten (one more), "
                + "both cut; of those below k all together");
        EelClerk x = new EelClerk();
        due("0 of 2", x.few(1, 2), 810000000000L);
        due("0, 1 of 2", x.few(2, 2), 990000000000L);
        due("0, 1, 2 of 2", x.few(3, 2), 1000000000000L);
        due("0 of 12: whole still", x.few(1, 12), 282429536481L);
        due("0 of 13: cut", x.few(1, 13), 254186582832L);
        due("0 of 14: cut from what was cut", x.few(1, 14), 228767924548L);
        due("all of 99: what was cut is gone", x.few(20, 99), byHand(1, 20, 99));
        x.terms(1, 9);
        due("0 of 13: slips cut", x.few(1, 13), 0);
        due("0, 1 of 13", x.few(2, 13), byHand(9, 2, 13));
        for (int slips = 0; slips <= 10; slips++) {
            x.terms(1, slips);
            due("slips " + slips, x.few(20, 99), byHand(slips, 20, 99));
            due("slips " + slips, x.few(7, 21), byHand(slips, 7, 21));
        }
    }

    /** The other way round: each part by itself, from those of one string fewer. */
    private static long byHand(int slips, int k, int n) {
        long[][] parts = new long[n + 1][n + 2];
        parts[0][0] = 1000000000000L;
        for (int string = 1; string <= n; string++) {
            for (int did = 0; did <= string; did++) {
                parts[string][did] = parts[string - 1][did] * (10 - slips) / 10;
                if (did > 0) {
                    parts[string][did] += parts[string - 1][did - 1] * slips / 10;
                }
            }
        }
        long all = 0;
        for (int did = 0; did < k && did <= n; did++) {
            all += parts[n][did];
        }
        return all;
    }

    private static void compared() {
        e.words("III", "SOON by a LAW in place of that in FORCE (NONE: none)");
        EelClerk x = Parishes.inRow(5);
        Parishes.inForce(x, "takes 9");
        Checks.law(x, "weighs 3");
        due("none", x.compare(-1, 0, 1), 5);
        due("that in force", x.compare(0, 0, 1), 9);
        due("another one", x.compare(1, 0, 1), 5);
        due("that in force still", x.soon(0, 1), 9);
    }

    // IV

    private static void yearsSeed() {
        e.words("IV", "YEARS with a SEED, n 1 .. 60");
        EelClerk x = Parishes.inRow(1);
        Parishes.inForce(x, "settles day % 10");
        due("n 0", x.years(7, 0), -1);
        due("n 61", x.years(7, 61), -1);
        x.years(7, 1);
        due("n 1: to day 1", x.drawn(0, 0), 0);
        x.years(7, 2);
        due("n 2: to day 2", x.drawn(0, 0), 1);
        x.years(7, 60);
        due("n 60: to day 60", x.drawn(0, 0), 9);
        x.years(7, 59);
        due("n 59: to day 59", x.drawn(0, 0), 8);
        e.words("IV", "s is the SEED (0 .. 1,000,000)");
        due("-1", x.years(-1, 1), -1);
        due("1000001", x.years(1000001, 1), -1);
        due("0", x.years(0, 1) >= 0 ? x.status() : -1, 0);
        due("1000000", x.years(1000000, 1) >= 0 ? x.status() : -1, 0);
    }

    private static void yearsDay() {
        e.words("IV", "Each time, as long as DAY is below 999");
        EelClerk x = Parishes.inRow(1);
        Parishes.inForce(x, "settles day % 10");
        x.terms(0, 990);
        x.years(7, 60);
        due("from 990: 998 is the last that passes", x.drawn(0, 0), 8);
        x.years(7, 8);
        due("from 990, eight times", x.drawn(0, 0), 7);
        x.terms(0, 998);
        x.years(7, 60);
        due("from 998: once", x.drawn(1, 0), 8);
        x.terms(0, 999);
        due("from 999: never", x.years(7, 60), 0);
        due("from 999: mud is as it was", x.drawn(0, 0) + x.drawn(1, 0), 0);
        due("from 999: it is not refused", x.status(), 0);
    }

    private static int[] draws(long seed, int many) {
        int[] draws = new int[many];
        long s = seed;
        for (int i = 0; i < many; i++) {
            s = (s * 1103 + 12345) % 1000003;
            draws[i] = (int) s;
        }
        return draws;
    }

    private static void yearsDraws() {
        e.words("IV", "s becomes (s times 1103 and 12345) modulo 1,000,003, it is s modulo m");
        EelClerk x = Parishes.inRow(1);
        for (int seed : new int[] {0, 1, 906, 907, 999999, 1000000}) {
            int[] d = draws(seed, 4);
            x.years(seed, 1);
            int spring = d[0] % 2;
            due("stirred by seed " + seed, x.drawn(spring, 0), d[3] % 4 == 1 ? d[2] % 10 : 0);
            due("the other one by seed " + seed, x.drawn(1 - spring, 0), 0);
            due("swum by seed " + seed, x.drawn(1, 1), d[3] % 4 == 2 && spring == 1 ? 1 : 0);
        }
        EelClerk one = Parishes.inRow();
        one.years(0, 1);
        due("the only spring stirred by seed 0", one.drawn(0, 0), 9);
        e.words("IV", "DRAWS of SPRINGS, of SPRINGS, of 10, of 4, whatever comes of them: at 0 (the last DRAW) there is a GATE "
                + "between the two, at 1 the first is STIRRED to the third DRAW, at 2 the EEL SWIMS to the first");
        int[] seen = new int[4];
        for (int seed = 0; seed < 120; seed++) {
            for (int what = 0; what < 4; what++) {
                seen[what] += draws(seed, 4)[3] % 4 == what ? 1 : 0;
            }
            byActs(seed, 3);
        }
        for (int what = 0; what < 4; what++) {
            due("drawn at some seed: " + what, seen[what] > 0 ? 1 : 0, 1);
        }
    }

    /** What years() tell is what the same acts, called one by one, would come to. */
    private static void byActs(int seed, int n) {
        EelClerk paper = Parishes.parish();
        EelClerk acts = Parishes.parish();
        int[] d = draws(seed, 4 * n);
        int swum = 0;
        for (int i = 0; i < n; i++) {
            int what = d[4 * i + 3] % 4;
            if (what == 0) {
                acts.gate(d[4 * i] % 4, d[4 * i + 1] % 4);
            } else if (what == 1) {
                acts.stir(d[4 * i] % 4, d[4 * i + 2] % 10);
            } else if (what == 2) {
                swum += Math.max(0, acts.swim(d[4 * i] % 4));
            }
            acts.pass();
        }
        due("years " + seed, paper.years(seed, n), swum);
        for (int k = 0; k < 4; k++) {
            due("drawn by " + seed, paper.drawn(k, 0) * 2 + paper.drawn(k, 1), acts.of(k, 1) * 2 + (acts.count(1) == k ? 1 : 0));
        }
    }

    private static void yearsCanBe() {
        e.words("IV", "each if it can be, at 3 nothing; then the DAY passes");
        EelClerk x = Parishes.inRow(9);
        Parishes.inForce(x, "settles mud + 1");
        int alone = 0;
        int shut = 0;
        int there = 0;
        int idle = 0;
        for (int seed = 0; seed < 3000; seed++) {
            int[] d = draws(seed, 8);
            if (d[3] % 4 == 0 && d[7] % 4 == 2 && d[4] % 2 == 1) {
                // a gate, then it would swim to 1
                boolean one = d[0] % 2 == d[1] % 2;
                if (one ? alone++ < 3 : shut++ < 3) {
                    due("a gate of " + (one ? "one alone" : "two") + ", then it swims: " + seed, x.years(seed, 2), one ? 9 : 0);
                    due("where it is: " + seed, x.drawn(1, 1), one ? 1 : 0);
                }
            }
            if (d[3] % 4 == 2 && d[0] % 2 == 0 && there++ < 3) {
                due("it would swim to where it is: " + seed, x.years(seed, 1), 0);
                due("then the day passes: " + seed, x.drawn(0, 0), 1);
            }
            if (d[3] % 4 == 3 && idle++ < 3) {
                due("nothing: " + seed, x.years(seed, 1), 0);
                due("then the day passes: " + seed, x.drawn(0, 0) * 10 + x.drawn(1, 0), 11);
            }
        }
        due("some of each", alone > 0 && shut > 0 && there > 0 && idle > 0 ? 1 : 0, 1);
        due("on paper alone", x.count(3) + x.count(1) + x.count(14) + x.count(6), 0);
    }

    private static void rows() {
        e.words("IV", "the TAPE's bytes by threes: two SPRINGS, FAR (0: none): this CHANNEL, not SHUT");
        EelClerk x = nine();
        due("1, 50, 0", Checks.row(x, 0, 1, 1, 8, 7, 50, 2, 3, 0), 3);
        due("1", x.between(0, 1, 0), 1);
        due("50", x.between(7, 8, 0), 50);
        due("0: none", x.between(2, 3, 0), 0);
        due("no bubbles", x.bubbles(), 0);
        x.gate(7, 8);
        Checks.row(x, 7, 8, 50);
        due("not shut", x.between(7, 8, 1), 0);
        Checks.row(x, 8, 7, 0);
        due("0: none any more", x.count(2), 1);
        e.words("IV", "one that can't be, one within which the TAPE ends is a BUBBLE: nothing");
        bubble("far 51", 0, 1, 51);
        bubble("far 255", 0, 1, 255);
        bubble("one alone", 1, 1, 5);
        bubble("to none such", 0, 9, 5);
        bubble("from none such", 9, 0, 5);
        bubble("255 to 254", 255, 254, 5);
        bubble("one byte", 0);
        bubble("two bytes", 0, 1);
        EelClerk y = nine();
        y.channel(0, 1, 4);
        due("one behind a bubble", Checks.row(y, 0, 1, 51, 0, 2, 6, 0, 1), 1);
        due("two bubbles", y.bubbles(), 2);
        due("what it tells", y.between(0, 2, 0) * 10 + y.between(0, 1, 0), 64);
        due("without springs", Checks.row(new EelClerk(), 0, 1, 5), 0);
    }

    private static void bubble(String name, int... bytes) {
        EelClerk x = nine();
        x.channel(0, 1, 4);
        x.gate(0, 1);
        due("told: " + name, Checks.row(x, bytes), 0);
        due("bubbles: " + name, x.bubbles(), 1);
        due("as it was: " + name, x.count(2) * 100 + x.count(3) * 10 + x.between(0, 1, 0), 114);
        due("it is not refused: " + name, x.status(), 0);
    }

    private static void images() {
        e.words("IV", "IMAGES 0, 1 keep all but the TAPE, FAULT, BUBBLES, where ORDERS stopped, what can be undone (nothing, behind "
                + "back()), the latest YEARS");
        EelClerk x = Parishes.parish();
        x.years(0, 1);
        x.image(0);
        x.image(1);
        x.terms(0, 999);
        x.years(0, 1);
        x.terms(0, 5);
        Checks.row(x, 9, 9);
        Checks.law(x, "bars bars");
        int fault = x.fault();
        Checks.orders(x, "pass; swim 0");
        Checks.law(x, "take");
        x.feed(0, 0, 0, 0, 0);
        x.pass();
        x.swim(9);
        due("image 0", x.back(0), 0);
        due("the tape", x.count(7), 20);
        due("fault", x.fault() * 10 + fault, 5);
        due("bubbles", x.bubbles(), 1);
        due("where orders stopped", x.stopped(), 1);
        due("what can be undone", x.count(6), 0);
        due("nothing", x.undo(), -3);
        due("the latest years", x.drawn(1, 0), 2);
        due("how many were refused by -6", x.count(12), 2);
        e.words("IV", "BACK to one all that it keeps is as it was then (IMAGES stay)");
        due("the day", x.count(14), 0);
        imagesKeep(0);
        imagesKeep(1);
    }

    private static void constants() {
        e.words("IV", "`NONE = -1`: There is none.");
        due("NONE", EelClerk.NONE, -1);
    }

    private static void imagesKeep(int k) {
        EelClerk x = Parishes.parish();
        x.gate(0, 2);
        x.swim(1);
        x.stir(3, 4);
        x.terms(0, 8);
        x.terms(1, 3);
        x.terms(2, 6);
        x.heard(1, 9);
        Parishes.inForce(x, "takes 7");
        x.image(k);
        x.back(k);
        for (int time = 0; time < 2; time++) {
            due("springs", x.count(0), 4);
            due("where the eel is", x.count(1), 1);
            due("channels", x.count(2) * 10 + x.between(0, 1, 0), 44);
            due("shut", x.count(3) * 10 + x.between(0, 2, 1), 11);
            due("how often it was heard", x.count(4), 1);
            due("what was heard", x.since(1), 9);
            due("laws", x.count(5), 1);
            due("in force", x.count(13) * 10 + x.between(0, 1, 2), 7);
            due("terms", x.count(14) * 100 + x.count(15) * 10 + x.count(16), 836);
            due("mud, level", x.of(3, 1) * 10 + x.of(3, 0), 49);
            x.spring(1, 1);
            x.channel(0, 1, 9);
            x.gate(0, 1);
            x.gate(0, 2);
            x.swim(2);
            x.stir(3, 5);
            x.forget();
            x.heard(0, 1);
            x.heard(1, 1);
            x.terms(0, 9);
            x.terms(1, 4);
            x.terms(2, 5);
            Parishes.inForce(x, "takes 8");
            due("back", x.back(k), 0);
        }
        due("no other image", x.back(1 - k), -2);
        EelClerk y = new EelClerk();
        y.spring(1, 1);
        y.image(1 - k);
        y.spring(5, 6);
        y.image(k);
        y.back(1 - k);
        y.spring(7, 8);
        y.back(k);
        due("levels, mud", y.of(0, 0) * 1000 + y.of(1, 0) * 100 + y.of(0, 1) * 10 + y.of(1, 1), 1516);
        due("the next law is the second", Checks.law(x, "bars"), 1);
    }
}
