import java.io.IOException;

/** The edges that the promises name, sentence by sentence; those of the words I to IV are in WordsEdgesTest. */
public final class CallsEdgesTest {
    private static final int MIN = Integer.MIN_VALUE;
    private static final int MAX = Integer.MAX_VALUE;
    private static final String EDGES = "NONE|-[1-6]|\\(|\\.\\.|empty|latest";
    private static Edges e;

    public static void main(String[] args) throws IOException {
        e = new Edges();
        newObject();
        spring();
        channel();
        of();
        between();
        terms();
        feed();
        end();
        row();
        bubbles();
        law();
        orders();
        fault();
        stopped();
        force();
        swim();
        gate();
        stir();
        pass();
        undo();
        undoCutOff();
        soon();
        way();
        never();
        centre();
        round();
        bound();
        share();
        sea();
        heard();
        forget();
        canBe();
        since();
        listen();
        few();
        compare();
        years();
        drawn();
        image();
        back();
        countNumbers();
        countRefused();
        statusRefused();
        statusLeft();
        for (int promise = 1; promise <= 41; promise++) {
            e.allTold("" + promise, EDGES);
        }
        e.close("CallsEdgesTest");
    }

    private static void due(String call, long got, long want) {
        e.due(call, got, want);
    }

    /** What a refused call must leave as it was: by few calls, as an object is used for 512 at most. */
    private static long standing(EelClerk x) {
        long all = 0;
        for (int what = 0; what <= 16; what++) {
            if (what < 8 || what > 12) {
                all = all * 31 + x.count(what);
            }
        }
        return ((all * 31 + x.of(0, 1)) * 31 + x.of(3, 1)) * 5200 + x.between(0, 1, 0) * 100 + x.between(0, 1, 1);
    }

    /** Refused by its number, told by status() too, and all is as it was. */
    private static void refused(EelClerk x, String call, Call made, int by) {
        long was = standing(x);
        due(call, made.on(x), by);
        due("status() behind " + call, x.status(), by);
        due("what stands behind " + call, standing(x), was);
    }

    private interface Call {
        int on(EelClerk x);
    }

    private static void newObject() {
        e.words(1, "A dry parish.");
        EelClerk x = new EelClerk();
        int[] counts = {0, 0, 0, 0, 0, 0, 0, 0, 0, 0, 0, 0, 0, -1, 0, 1, 0};
        for (int what = 0; what < counts.length; what++) {
            due("count(" + what + ")", x.count(what), counts[what]);
        }
        due("status()", x.status(), 0);
        due("fault()", x.fault(), -1);
        due("stopped()", x.stopped(), -1);
        due("bubbles()", x.bubbles(), 0);
        due("of(0, 0)", x.of(0, 0), -1);
        due("between(0, 1, 0)", x.between(0, 1, 0), -1);
        due("canBe()", x.canBe(), 0);
        due("NONE", EelClerk.NONE, -1);
    }

    private static void spring() {
        e.words(2, "-1; -5");
        EelClerk x = new EelClerk();
        refused(x, "spring(-1, 0)", y -> y.spring(-1, 0), -1);
        refused(x, "spring(10, 0)", y -> y.spring(10, 0), -1);
        refused(x, "spring(0, -1)", y -> y.spring(0, -1), -1);
        refused(x, "spring(0, 10)", y -> y.spring(0, 10), -1);
        refused(x, "spring(MIN, MAX)", y -> y.spring(MIN, MAX), -1);
        refused(x, "spring(MAX, MIN)", y -> y.spring(MAX, MIN), -1);
        e.words(2, "A SPRING: its number.");
        for (int i = 0; i < 9; i++) {
            due("spring " + i, x.spring(i, 9 - i), i);
        }
        due("status()", x.status(), 0);
        e.words(2, "-1; -5");
        refused(x, "a tenth", y -> y.spring(0, 0), -5);
        refused(x, "a tenth of level 10", y -> y.spring(10, 0), -1);
        refused(x, "a tenth of mud -1", y -> y.spring(0, -1), -1);
    }

    private static void channel() {
        e.words(3, "FAR 0 .. 50 (0: there is none then), not SHUT then: how FAR it was. -1 (one alone, too); -2.");
        EelClerk x = Parishes.inRow(4, 3);
        due("from none to 1", x.channel(0, 2, 1), 0);
        due("from 1 to 50", x.channel(2, 0, 50), 1);
        due("from 50 to none", x.channel(0, 2, 0), 50);
        due("none is there", x.between(0, 2, 0), 0);
        due("none is counted", x.count(2), 2);
        due("from none to none", x.channel(0, 2, 0), 0);
        refused(x, "far 51", y -> y.channel(0, 1, 51), -1);
        refused(x, "far -1", y -> y.channel(0, 1, -1), -1);
        refused(x, "far MAX", y -> y.channel(0, 1, MAX), -1);
        refused(x, "far MIN", y -> y.channel(0, 1, MIN), -1);
        refused(x, "one alone", y -> y.channel(1, 1, 5), -1);
        refused(x, "one alone to none", y -> y.channel(1, 1, 0), -1);
        refused(x, "one alone that is not there", y -> y.channel(3, 3, 5), -1);
        refused(x, "far 51 to none such", y -> y.channel(0, 3, 51), -1);
        refused(x, "to none such", y -> y.channel(2, 3, 5), -2);
        refused(x, "from none such", y -> y.channel(3, 2, 5), -2);
        refused(x, "to -1", y -> y.channel(0, -1, 5), -2);
        refused(x, "from MIN to MAX", y -> y.channel(MIN, MAX, 0), -2);
        refused(new EelClerk(), "without springs", y -> y.channel(0, 1, 1), -2);
        EelClerk z = Parishes.inRow(4, 3);
        z.gate(0, 1);
        due("a shut one, as far as it was", z.channel(0, 1, 4), 4);
        due("not shut then", z.between(0, 1, 1), 0);
        z.gate(0, 1);
        refused(z, "a shut one, far 51", y -> y.channel(0, 1, 51), -1);
        due("shut still", z.between(0, 1, 1), 1);
        z.channel(0, 1, 0);
        due("none is not shut", z.count(3) * 10 + z.between(0, 1, 1), 0);
        z.channel(0, 1, 2);
        due("not shut when it is there again", z.between(0, 1, 1), 0);
    }

    private static void of() {
        e.words(4, "LEVEL (what 0), MUD (1), to what it SETTLES (2). NONE.");
        EelClerk x = Parishes.parish();
        due("the first's level", x.of(0, 0), 0);
        due("the last's level", x.of(3, 0), 9);
        due("the last's mud", x.of(3, 1), 9);
        due("it settles to what there is", x.of(3, 2), 9);
        due("what 3", x.of(0, 3), -1);
        due("what -1", x.of(0, -1), -1);
        due("what MAX", x.of(0, MAX), -1);
        for (int what = 0; what <= 2; what++) {
            due("spring 4, what " + what, x.of(4, what), -1);
            due("spring -1, what " + what, x.of(-1, what), -1);
            due("spring MAX, what " + what, x.of(MAX, what), -1);
            due("spring MIN, what " + what, x.of(MIN, what), -1);
            due("no springs, what " + what, new EelClerk().of(0, what), -1);
        }
        due("NONE is not refused", x.status() + x.count(8) + x.count(9), 0);
    }

    private static void between() {
        e.words(5, "FAR (what 0; 0: none)");
        EelClerk x = Parishes.parish();
        due("far", x.between(2, 0, 0), 9);
        due("none", x.between(3, 0, 0), 0);
        e.words(5, "whether SHUT (1: 1, 0)");
        due("not shut", x.between(0, 1, 1), 0);
        x.gate(0, 1);
        due("shut", x.between(1, 0, 1), 1);
        due("none is not shut", x.between(0, 3, 1), 0);
        e.words(5, "how long it TAKES (2), what it WEIGHS (3), whether BARRED (4: 1, 0; 2 .. 4 NONE, if there is none)");
        Parishes.inForce(x, "takes 7; weighs 8; bars if from = 1");
        due("takes, shut", x.between(0, 1, 2), 7);
        due("weighs, shut", x.between(0, 1, 3), 8);
        due("not barred", x.between(0, 1, 4), 0);
        due("barred", x.between(1, 0, 4), 1);
        for (int what = 2; what <= 4; what++) {
            due("no channel, what " + what, x.between(1, 3, what), -1);
        }
        e.words(5, "NONE (one alone; others)");
        for (int what = 0; what <= 4; what++) {
            due("one alone, what " + what, x.between(2, 2, what), -1);
            due("one alone that is not there, what " + what, x.between(4, 4, what), -1);
            due("to none such, what " + what, x.between(0, 4, what), -1);
            due("from none such, what " + what, x.between(4, 0, what), -1);
            due("from -1, what " + what, x.between(-1, 0, what), -1);
            due("from MIN to MAX, what " + what, x.between(MIN, MAX, what), -1);
            for (int spring = 0; spring < 4; spring++) {
                due(spring + " to -1, what " + what, x.between(spring, -1, what), -1);
                due("-2 to " + spring + ", what " + what, x.between(-2, spring, what), -1);
                due(spring + " to 4, what " + what, x.between(spring, 4, what), -1);
                due("8 to " + spring + ", what " + what, x.between(8, spring, what), -1);
            }
        }
        due("what 5", x.between(0, 1, 5), -1);
        due("what -1", x.between(0, 1, -1), -1);
        due("what 5 of no channel", x.between(0, 3, 5), -1);
        due("what MIN", x.between(0, 1, MIN), -1);
    }

    private static void terms() {
        e.words(6, "-1");
        int[] tops = {999, 10, 9};
        for (int what = 0; what < 3; what++) {
            int term = what;
            int top = tops[what];
            EelClerk x = new EelClerk();
            due("term " + what + ": the highest", x.terms(what, top), what == 1 ? 1 : 0);
            refused(x, "term " + what + ": above", y -> y.terms(term, top + 1), -1);
            refused(x, "term " + what + ": far above", y -> y.terms(term, MAX), -1);
            due("term " + what + ": the lowest", x.terms(what, 0), top);
            refused(x, "term " + what + ": below", y -> y.terms(term, -1), -1);
            refused(x, "term " + what + ": far below", y -> y.terms(term, MIN), -1);
            due("term " + what + ": as it was", x.terms(what, 1), 0);
        }
        refused(new EelClerk(), "term 3", y -> y.terms(3, 0), -1);
        refused(new EelClerk(), "term -1", y -> y.terms(-1, 0), -1);
        refused(new EelClerk(), "term MAX", y -> y.terms(MAX, 0), -1);
    }

    private static void feed() {
        e.words(7, "Twenty bytes come behind the TAPE, four of each number, the highest first");
        EelClerk x = Parishes.inRow(1, 1, 1, 1, 1, 1);
        x.end(0);
        due("twenty", x.feed(0x00020300, 0x03040004, 0x05000609, 0xff000105, 0x01030308), 20);
        due("six and two bytes", x.row() * 10 + x.bubbles(), 52);
        due("the bytes in their order", x.between(0, 2, 0) * 1000 + x.between(0, 3, 0) * 100 + x.between(0, 4, 0) * 10
                + x.between(0, 6, 0), 3459);
        due("the last but two", x.between(1, 5, 0), 3);
        x.feed(-1, -1, -1, -1, -1);
        x.end(3);
        due("255 is no spring: bytes are not below 0", x.row() * 10 + x.bubbles(), 1);
        e.words(7, "how many it has. NONE, if there would be more than 400");
        for (int bytes = 20; bytes <= 400; bytes += 20) {
            due("to " + bytes, x.feed(MIN, MAX, 0, -1, 1), bytes);
        }
        due("beyond 400", x.feed(0, 0, 0, 0, 0), -1);
        due("all is as it was", x.count(7), 400);
        x.end(381);
        due("to 401", x.feed(0, 0, 0, 0, 0), -1);
        due("none of them came", x.count(7), 381);
        x.end(380);
        due("to 400 again", x.feed(0, 0, 0, 0, 0), 400);
        due("NONE is not refused", x.status() + x.count(8) + x.count(11), 0);
    }

    private static void end() {
        e.words(8, "NONE, if it has not so many, or n is below 0");
        EelClerk x = new EelClerk();
        due("an empty tape: 0", x.end(0), 0);
        due("an empty tape: 1", x.end(1), -1);
        x.feed(0, 0, 0, 0, 0);
        due("one more than there are", x.end(21), -1);
        due("-1", x.end(-1), -1);
        due("MIN", x.end(MIN), -1);
        due("MAX", x.end(MAX), -1);
        due("as it was", x.count(7), 20);
        due("all", x.end(20), 20);
        due("one less", x.end(19), 19);
        due("what it had", x.end(20), -1);
        due("none", x.end(0), 0);
        due("the tape is empty", x.count(7), 0);
        EelClerk y = new EelClerk();
        for (int i = 0; i < 20; i++) {
            y.feed(0, 0, 0, 0, 0);
        }
        due("a full tape: 401", y.end(401), -1);
        due("a full tape: 400", y.end(400), 400);
        due("NONE is not refused", y.status() + y.count(8), 0);
    }

    private static void row() {
        e.words(9, "the TAPE is empty then: how many CHANNELS were told");
        EelClerk x = Parishes.inRow(1, 1);
        due("one", Checks.row(x, 0, 2, 9), 1);
        due("the tape is empty then", x.count(7), 0);
        due("none", Checks.row(x, 3, 0, 1), 0);
        due("the tape is empty then", x.count(7), 0);
        due("the same one twice", Checks.row(x, 0, 2, 8, 2, 0, 7), 2);
        due("as the last tells", x.between(0, 2, 0), 7);
        int[] most = new int[400];
        for (int i = 0; i < 400; i++) {
            most[i] = i % 3 == 0 ? 0 : i % 3 == 1 ? 1 : i / 3 % 51;
        }
        due("a full tape", Checks.row(x, most), 133);
        due("one byte is left", x.bubbles(), 1);
        due("as the last tells", x.between(0, 1, 0), 132 % 51);
        e.words(9, "-6 the TAPE is empty");
        refused(x, "row()", y -> y.row(), -6);
        refused(new EelClerk(), "row() of a new object", y -> y.row(), -6);
        due("no springs are no empty tape", Checks.row(new EelClerk(), 0, 1, 2), 0);
    }

    private static void bubbles() {
        e.words(10, "How many BUBBLES the latest row() had that was not REFUSED (0 ahead of any)");
        EelClerk x = Parishes.inRow(1, 1);
        due("ahead of any", x.bubbles(), 0);
        x.row();
        due("behind a refused one", x.bubbles(), 0);
        Checks.row(x, 0, 0, 1, 0, 1, 51, 0, 1);
        due("three", x.bubbles(), 3);
        x.row();
        due("a refused one leaves it", x.bubbles(), 3);
        Checks.row(x, 0, 1, 50);
        due("the latest had none", x.bubbles(), 0);
    }

    private static EelClerk sixLaws() {
        EelClerk x = Parishes.parish();
        for (int i = 0; i < 6; i++) {
            Checks.law(x, "takes " + (i + 1));
        }
        return x;
    }

    private static void law() {
        e.words(11, "The TAPE, which is empty then, becomes a LAW: its number.");
        EelClerk x = Parishes.parish();
        for (int i = 0; i < 6; i++) {
            due("law " + i, Checks.law(x, "takes " + (i + 1)), i);
            due("the tape is empty then", x.count(7), 0);
        }
        x.force(5);
        due("the sixth is a law", x.between(0, 1, 2), 6);
        e.words(11, "-5 (ahead of reading it; the TAPE is empty then, too)");
        EelClerk y = sixLaws();
        due("one that would stand", Checks.law(y, "bars"), -5);
        due("status()", y.status(), -5);
        due("the tape is empty then", y.count(7), 0);
        due("laws", y.count(5), 6);
        due("one that would not", Checks.law(y, "bars bars"), -5);
        due("fault(): it was not read", y.fault(), -1);
        due("nothing", y.law(), -5);
        due("refused by -5", y.count(11), 3);
        due("refused by -6", y.count(12), 0);
        e.words(11, "-6 (blanks alone: FAULT at the end)");
        EelClerk z = Parishes.parish();
        due("nothing", z.law(), -6);
        due("fault()", z.fault(), 0);
        due("one blank", Checks.law(z, " "), -6);
        due("fault()", z.fault(), 1);
        due("400 blanks", Checks.law(z, " ".repeat(400)), -6);
        due("fault()", z.fault(), 400);
        due("the tape is empty then", z.count(7), 0);
        due("half a law", Checks.law(z, "takes"), -6);
        due("status()", z.status(), -6);
        due("laws", z.count(5), 0);
        e.words(11, "It leaves what can be undone");
        EelClerk w = Parishes.parish();
        w.pass();
        Checks.law(w, "bars");
        due("one that stands", w.count(6), 1);
        Checks.law(w, "bar");
        due("one that does not", w.count(6), 1);
        due("undo()", w.undo(), 3);
    }

    private static void orders() {
        e.words(12, "ORDERS, the TAPE is empty then: how many were run. -3 one can't be; -6 (as for law()).");
        EelClerk x = Parishes.parish();
        due("none was run", Checks.orders(x, "pass if 1=2"), 0);
        due("the tape is empty then", x.count(7), 0);
        due("as many as can be", Checks.orders(x, "pass times 20" + ";pass times 20".repeat(11)), 240);
        due("the tape is empty then", x.count(7), 0);
        for (String last : new String[] {"swim 0", "swim 4", "gate 0 to 0", "gate 0 to 4", "gate 0 to 3", "stir 0 to 10",
            "stir 4 to 1", "stir 3 to 9"}) {
            refusedOrders("stir 0 to 5; gate 0 to 1; " + last + "; pass", -3, -1);
        }
        refusedOrders("pass times 20; swim 4", -3, -1);
        refusedOrders("", -6, 0);
        refusedOrders("  ", -6, 2);
        refusedOrders(" ".repeat(400), -6, 400);
        refusedOrders("pass;", -6, 5);
        EelClerk y = Parishes.parish();
        y.terms(0, 999);
        refused(y, "at 999", z -> Checks.orders(z, "swim 1; pass"), -3);
        refused(y, "at 999, none", z -> z.orders(), -6);
        due("refused by -3", y.count(10), 1);
        due("refused by -6", y.count(12), 1);
    }

    private static void refusedOrders(String text, int by, int fault) {
        EelClerk x = Parishes.parish();
        refused(x, text, y -> Checks.orders(y, text), by);
        due("fault() of " + text, x.fault(), fault);
        due("the tape is empty then", x.count(7), 0);
    }

    private static void fault() {
        e.words(13, "FAULT of the latest law(), orders() that read a TEXT: its place; NONE without.");
        EelClerk x = Parishes.parish();
        due("ahead of any", x.fault(), -1);
        Checks.law(x, "Bars");
        due("at the first byte", x.fault(), 0);
        Checks.orders(x, "pass");
        due("orders without", x.fault(), -1);
        Checks.orders(x, "pass pass");
        due("orders", x.fault(), 5);
        Checks.law(x, "bars");
        due("a law without", x.fault(), -1);
        Checks.law(x, "bars" + " ".repeat(395) + "x");
        due("at the last byte", x.fault(), 399);
        Checks.law(x, "bars" + " ".repeat(395) + ";");
        due("at the end of a full tape", x.fault(), 400);
        Checks.orders(x, "swim 9");
        due("one that can't be is no fault", x.fault(), -1);
        for (int i = 0; i < 5; i++) {
            Checks.law(x, "bars");
        }
        Checks.orders(x, "stir");
        due("orders", x.fault(), 4);
        due("a law that is not read", Checks.law(x, "bars"), -5);
        due("leaves it", x.fault(), 4);
        x.row();
        due("row() leaves it", x.fault(), 4);
    }

    private static void stopped() {
        e.words(14, "Which CLAUSE (0 on) of the latest orders() could not be. "
                + "NONE (that was done, or REFUSED by -6; ahead of any).");
        EelClerk x = Parishes.parish();
        due("ahead of any", x.stopped(), -1);
        Checks.orders(x, "swim 0");
        due("the first", x.stopped(), 0);
        Checks.orders(x, "pass" + ";pass".repeat(10) + ";swim 0");
        due("the twelfth", x.stopped(), 11);
        Checks.law(x, "no law");
        x.swim(0);
        due("other calls leave it", x.stopped(), 11);
        Checks.orders(x, "pass");
        due("done", x.stopped(), -1);
        Checks.orders(x, "pass; swim 0 times 3");
        due("the second", x.stopped(), 1);
        x.orders();
        due("refused by -6", x.stopped(), -1);
        Checks.orders(x, "swim 0 if 1=2; swim 0 if 1/0=1; stir 0 to 9 times 2");
        due("those that are not run count", x.stopped(), 2);
    }

    private static void force() {
        e.words(15, "A LAW is in FORCE (NONE: none): which was. -2.");
        EelClerk x = Parishes.parish();
        refused(x, "law 0 without laws", y -> y.force(0), -2);
        due("none to none", x.force(-1), -1);
        Checks.law(x, "takes 8");
        refused(x, "one more than there are", y -> y.force(1), -2);
        refused(x, "-2", y -> y.force(-2), -2);
        refused(x, "MAX", y -> y.force(MAX), -2);
        refused(x, "MIN", y -> y.force(MIN), -2);
        due("the only one", x.force(0), -1);
        due("takes", x.between(0, 1, 2), 8);
        refused(x, "one more than there are", y -> y.force(1), -2);
        due("the one that is", x.force(0), 0);
        due("none", x.force(EelClerk.NONE), 0);
        due("takes", x.between(0, 1, 2), 4);
        EelClerk six = sixLaws();
        due("the sixth", six.force(5), -1);
        refused(six, "a seventh", y -> y.force(6), -2);
        e.words(15, "It leaves what can be undone");
        six.pass();
        six.force(0);
        six.force(-1);
        six.force(7);
        due("undo()", six.undo(), 3);
    }

    private static void swim() {
        e.words(16, "-2 (no such SPRING); -3 (where it is, too)");
        EelClerk x = Parishes.parish();
        refused(x, "spring 4", y -> y.swim(4), -2);
        refused(x, "spring -1", y -> y.swim(-1), -2);
        refused(x, "spring MAX", y -> y.swim(MAX), -2);
        refused(x, "spring MIN", y -> y.swim(MIN), -2);
        refused(new EelClerk(), "where it is, without springs", y -> y.swim(0), -2);
        refused(x, "where it is", y -> y.swim(0), -3);
        refused(x, "without a channel", y -> y.swim(3), -3);
        x.gate(0, 1);
        refused(x, "shut", y -> y.swim(1), -3);
        x.gate(0, 1);
        Parishes.inForce(x, "bars if from = 0 and to = 2");
        refused(x, "barred", y -> y.swim(2), -3);
        e.words(16, "To SWIM: how long it TAKES.");
        due("there", x.swim(1), 4);
        refused(x, "where it is then", y -> y.swim(1), -3);
        due("on", x.swim(2), 3);
        due("barred the other way alone", x.swim(0), 9);
    }

    private static void gate() {
        e.words(17, "A GATE: whether it is SHUT then (1, 0). -1 (one alone); -2; -3 there is no CHANNEL.");
        EelClerk x = Parishes.parish();
        due("shut", x.gate(0, 1), 1);
        due("open, from the other one", x.gate(1, 0), 0);
        refused(x, "one alone", y -> y.gate(2, 2), -1);
        refused(x, "one alone that is not there", y -> y.gate(4, 4), -1);
        refused(x, "-1 alone", y -> y.gate(-1, -1), -1);
        refused(x, "to none such", y -> y.gate(3, 4), -2);
        refused(x, "from none such", y -> y.gate(4, 3), -2);
        refused(x, "to -1", y -> y.gate(0, -1), -2);
        refused(x, "MIN to MAX", y -> y.gate(MIN, MAX), -2);
        refused(x, "no channel", y -> y.gate(0, 3), -3);
        x.channel(0, 1, 0);
        refused(x, "a channel that was", y -> y.gate(0, 1), -3);
        refused(new EelClerk(), "without springs", y -> y.gate(0, 1), -2);
    }

    private static void stir() {
        e.words(18, "To STIR: what MUD was. -1; -2; -3 it is so.");
        EelClerk x = Parishes.parish();
        due("the least", x.stir(3, 0), 9);
        refused(x, "so: the least", y -> y.stir(3, 0), -3);
        due("the most", x.stir(3, 9), 0);
        refused(x, "so: the most", y -> y.stir(3, 9), -3);
        refused(x, "mud 10", y -> y.stir(3, 10), -1);
        refused(x, "mud -1", y -> y.stir(3, -1), -1);
        refused(x, "mud MAX", y -> y.stir(3, MAX), -1);
        refused(x, "mud MIN", y -> y.stir(3, MIN), -1);
        refused(x, "mud 10 of none such", y -> y.stir(4, 10), -1);
        refused(x, "mud -1 of none such", y -> y.stir(-1, -1), -1);
        refused(x, "spring 4", y -> y.stir(4, 1), -2);
        refused(x, "spring -1", y -> y.stir(-1, 1), -2);
        refused(x, "spring MAX", y -> y.stir(MAX, 1), -2);
        refused(new EelClerk(), "without springs", y -> y.stir(0, 0), -2);
    }

    private static void pass() {
        e.words(19, "A DAY: of how many SPRINGS MUD is other then. -3.");
        EelClerk x = Parishes.parish();
        due("none is other", x.pass(), 0);
        Parishes.inForce(x, "settles 5");
        due("all are other", x.pass(), 4);
        due("none is other", x.pass(), 0);
        x.stir(3, 6);
        due("one is other", x.pass(), 1);
        x.terms(0, 998);
        x.stir(3, 6);
        due("to the last day", x.pass(), 1);
        x.stir(3, 6);
        refused(x, "at 999", y -> y.pass(), -3);
        due("mud is as it was", x.of(3, 1), 6);
        EelClerk dry = new EelClerk();
        due("without springs", dry.pass(), 0);
        due("it is the next day", dry.count(14), 1);
        dry.terms(0, 999);
        refused(dry, "at 999, without springs", y -> y.pass(), -3);
    }

    private static void undo() {
        e.words(20, "The latest swim(), gate(), stir(), pass() (by ORDERS, too; 16 are kept) is undone");
        EelClerk x = Parishes.parish();
        for (int i = 1; i <= 17; i++) {
            x.pass();
            due("kept behind " + i, x.count(6), Math.min(i, 16));
        }
        for (int i = 16; i >= 1; i--) {
            due("the latest first", x.undo() * 100 + x.count(14), 300 + i);
        }
        refused(x, "the seventeenth", y -> y.undo(), -3);
        due("its day stays", x.count(14), 1);
        Checks.orders(x, "stir 0 to 5; stir 1 to 5; pass times 15");
        due("by orders", x.count(6), 16);
        for (int i = 0; i < 15; i++) {
            x.undo();
        }
        due("the sixteenth of orders", x.undo(), 2);
        refused(x, "the seventeenth of orders", y -> y.undo(), -3);
        due("the oldest stays", x.of(0, 1) * 10 + x.of(1, 1), 52);
        Checks.orders(x, "pass; pass; swim 0");
        due("orders that were refused", x.count(6), 0);
        e.words(20, "(where the EEL is, what is SHUT, MUD, DAY are as they were): 0 .. 3");
        Parishes.inForce(x, "settles 9");
        x.swim(1);
        x.gate(0, 1);
        x.stir(2, 3);
        x.pass();
        due("a day", x.undo(), 3);
        due("mud, day", x.of(0, 1) * 1000 + x.of(2, 1) * 100 + x.count(14), 5301);
        due("stirring", x.undo(), 2);
        due("mud", x.of(2, 1), 0);
        due("a gate", x.undo(), 1);
        due("shut", x.count(3), 0);
        due("swimming", x.undo(), 0);
        due("where it is", x.count(1), 0);
        x.gate(0, 2);
        x.swim(1);
        x.swim(2);
        x.gate(1, 2);
        due("the second gate", x.undo() * 100 + x.between(0, 2, 1) * 10 + x.between(1, 2, 1), 110);
        due("the second time it swam", x.undo() * 10 + x.count(1), 1);
        due("the first time it swam", x.undo() * 10 + x.count(1), 0);
        due("the first gate", x.undo() * 10 + x.count(3), 10);
        e.words(20, "-3 there is none");
        refused(x, "undo()", y -> y.undo(), -3);
        refused(new EelClerk(), "undo() of a new object", y -> y.undo(), -3);
        x.swim(0);
        x.gate(0, 3);
        x.stir(0, 5);
        x.terms(0, 999);
        x.pass();
        refused(x, "behind acts that were refused", y -> y.undo(), -3);
    }

    private static void undoCutOff() {
        e.words(20, "(nothing that was ahead of a spring(), channel(), terms(), row(), back() that was not REFUSED "
                + "can be undone)");
        String[] names = {"spring()", "channel()", "terms()", "row()", "back()"};
        Call[] granted = {y -> y.spring(0, 0), y -> y.channel(0, 1, 4), y -> y.terms(2, 0), y -> Checks.row(y, 9),
            y -> y.back(0)};
        Call[] refused = {y -> y.spring(10, 0), y -> y.channel(0, 0, 4), y -> y.terms(2, 10), y -> y.row(), y -> y.back(1)};
        for (int i = 0; i < names.length; i++) {
            EelClerk x = Parishes.parish();
            x.image(0);
            x.gate(0, 1);
            x.pass();
            due("refused: " + names[i], refused[i].on(x) < 0 ? x.count(6) : -1, 2);
            due("what it takes back", x.undo(), 3);
            due("granted: " + names[i], granted[i].on(x) >= 0 ? x.count(6) : -1, 0);
            due("undo()", x.undo(), -3);
            x.stir(0, 7);
            due("what is behind it can", x.undo(), 2);
        }
        Call[] others = {y -> y.heard(0, 1), y -> y.forget(), y -> y.image(0), y -> y.years(3, 9), y -> y.force(-1),
            y -> y.feed(0, 0, 0, 0, 0), y -> y.end(0), y -> Checks.law(y, "bars"), y -> Checks.orders(y, "swim 9"),
            y -> y.canBe(), y -> y.centre(0), y -> y.swim(0)};
        EelClerk x = Parishes.parish();
        x.pass();
        for (int i = 0; i < others.length; i++) {
            others[i].on(x);
            due("another call leaves it: " + i, x.count(6), 1);
        }
    }

    private static void soon() {
        e.words(21, "NONE (never; no such SPRING)");
        EelClerk x = Parishes.parish();
        x.gate(2, 3);
        due("never", x.soon(0, 3), -1);
        due("never back", x.soon(3, 0), -1);
        due("to none such", x.soon(0, 4), -1);
        due("from none such", x.soon(4, 0), -1);
        due("none such to itself", x.soon(4, 4), -1);
        due("-1 to itself", x.soon(-1, -1), -1);
        due("MIN to MAX", x.soon(MIN, MAX), -1);
        due("without springs", new EelClerk().soon(0, 0), -1);
        due("from the last to itself", x.soon(3, 3), 0);
        due("NONE is not refused", x.status() + x.count(9), 0);
    }

    private static void way() {
        e.words(22, "its SPRING i (0: that from which it goes). NONE (there is none; not so many).");
        EelClerk x = Parishes.parish();
        due("the first", x.way(3, 1, 0), 3);
        due("the last", x.way(3, 1, 2), 1);
        due("one more", x.way(3, 1, 3), -1);
        due("-1", x.way(3, 1, -1), -1);
        due("MAX", x.way(3, 1, MAX), -1);
        due("MIN", x.way(3, 1, MIN), -1);
        due("to itself", x.way(2, 2, 0), 2);
        due("to itself, one more", x.way(2, 2, 1), -1);
        x.gate(2, 3);
        due("there is none", x.way(0, 3, 0), -1);
        due("there is none, nor a second", x.way(0, 3, 1), -1);
        due("to none such", x.way(0, 4, 0), -1);
        due("from none such", x.way(4, 0, 0), -1);
        due("none such to itself", x.way(4, 4, 0), -1);
        due("without springs", new EelClerk().way(0, 0, 0), -1);
        EelClerk nine = Parishes.inRow(1, 1, 1, 1, 1, 1, 1, 1);
        due("a ninth", nine.way(0, 8, 8), 8);
        due("no tenth", nine.way(0, 8, 9), -1);
    }

    private static void never() {
        e.words(23, "NEVER, as bits. NONE.");
        EelClerk x = Parishes.parish();
        due("none", x.never(0), 0);
        x.gate(2, 3);
        due("one", x.never(0), 8);
        due("all but itself", x.never(3), 7);
        due("spring 4", x.never(4), -1);
        due("spring -1", x.never(-1), -1);
        due("spring MAX", x.never(MAX), -1);
        due("without springs", new EelClerk().never(0), -1);
        due("one alone", Parishes.inRow().never(0), 0);
    }

    private static void centre() {
        e.words(24, "The CENTRE (what 0), in how many DAYS it comes to the last one (1). NONE (there is none; others).");
        EelClerk x = Parishes.parish();
        due("centre", x.centre(0), 1);
        due("days", x.centre(1), 5);
        due("what 2", x.centre(2), -1);
        due("what -1", x.centre(-1), -1);
        due("what MIN", x.centre(MIN), -1);
        x.gate(2, 3);
        due("there is none", x.centre(0), -1);
        due("there is none: days", x.centre(1), -1);
        due("without springs", new EelClerk().centre(0), -1);
        due("without springs: days", new EelClerk().centre(1), -1);
    }

    private static void round() {
        e.words(25, "A ROUND of SPRINGS as bits (where the EEL is aside)");
        EelClerk x = Parishes.parish();
        due("with it", x.round(9, -1), 18);
        due("without it", x.round(8, -1), 18);
        due("it is no part of the row", x.round(9, 0), 3);
        e.words(25, "the DAYS (i NONE; without others: 0)");
        due("none told", x.round(0, -1), 0);
        due("where it is alone", x.round(1, -1), 0);
        due("all", x.round(15, -1), 18);
        e.words(25, "the i-th (0 the first behind where it is)");
        due("first", x.round(15, 0), 1);
        due("last", x.round(15, 2), 3);
        e.words(25, "NONE (there is none; one that is not there; no SPRINGS; others)");
        due("one more than there are", x.round(15, 3), -1);
        due("MAX", x.round(15, MAX), -1);
        due("-2", x.round(15, -2), -1);
        due("MIN", x.round(15, MIN), -1);
        due("first of none", x.round(0, 0), -1);
        due("first of where it is", x.round(1, 0), -1);
        due("one that is not there", x.round(16, -1), -1);
        due("one that is not there, among others", x.round(31, -1), -1);
        due("the highest bit", x.round(MIN, -1), -1);
        due("all bits", x.round(-1, -1), -1);
        due("all bits but the highest", x.round(MAX, -1), -1);
        x.gate(2, 3);
        due("there is none", x.round(8, -1), -1);
        due("there is no first", x.round(12, 0), -1);
        due("no springs, none told", new EelClerk().round(0, -1), -1);
        due("no springs, one told", new EelClerk().round(1, -1), -1);
        EelClerk nine = Parishes.inRow(1, 1, 1, 1, 1, 1, 1, 1);
        due("all of nine", nine.round(511, -1), 16);
        due("the eighth of nine", nine.round(511, 7), 8);
        due("no ninth", nine.round(511, 8), -1);
        due("a tenth spring", nine.round(512, -1), -1);
    }

    private static void bound() {
        e.words(26, "A BOUND: what it WEIGHS (what 0), its set (1). NONE (one alone; others).");
        EelClerk x = Parishes.parish();
        due("weighs", x.bound(0, 3, 0), 1);
        due("set", x.bound(0, 3, 1), 7);
        for (int what = 0; what <= 1; what++) {
            due("one alone", x.bound(2, 2, what), -1);
            due("one alone that is not there", x.bound(4, 4, what), -1);
            due("to none such", x.bound(0, 4, what), -1);
            due("from none such", x.bound(4, 0, what), -1);
            due("to -1", x.bound(0, -1, what), -1);
            due("MIN to MAX", x.bound(MIN, MAX, what), -1);
            due("without springs", new EelClerk().bound(0, 1, what), -1);
        }
        due("what 2", x.bound(0, 1, 2), -1);
        due("what -1", x.bound(0, 1, -1), -1);
        due("what MAX", x.bound(0, 1, MAX), -1);
        EelClerk nine = Parishes.inRow(1, 1, 1, 1, 1, 1, 1, 1);
        nine.gate(7, 8);
        due("nothing is weighed", nine.bound(8, 0, 0), 0);
        due("the last of nine alone", nine.bound(8, 0, 1), 256);
    }

    private static void share() {
        e.words(27, "NONE (the word comes from none of them; one that is not there; others)");
        EelClerk x = Parishes.parish();
        x.gate(2, 3);
        due("from none of them", x.share(7, 3), -1);
        due("none told", x.share(0, 0), -1);
        due("one told that is not there", x.share(16, 0), -1);
        due("one told that is not there, among others", x.share(17, 0), -1);
        due("the highest bit", x.share(MIN, 0), -1);
        due("all bits", x.share(-1, 0), -1);
        due("all bits but the highest", x.share(MAX, 0), -1);
        due("spring 4", x.share(15, 4), -1);
        due("spring -1", x.share(15, -1), -1);
        due("spring MAX", x.share(15, MAX), -1);
        due("without springs", new EelClerk().share(0, 0), -1);
        due("all told", x.share(15, 3), 3);
        EelClerk nine = Parishes.inRow(1, 1, 1, 1, 1, 1, 1, 1);
        due("the last of nine", nine.share(257, 7), 8);
        due("a tenth", nine.share(512, 7), -1);
    }

    private static void sea() {
        e.words(28, "To the SEA by k 0 .. 9 GATES: the DAYS (i NONE), SPRING i (0: where it is). "
                + "NONE (there is no way; no SPRINGS; others).");
        EelClerk x = Parishes.parish();
        x.swim(1);
        due("k 0: days", x.sea(0, -1), 4);
        due("k 9: days", x.sea(9, -1), 4);
        due("k -1", x.sea(-1, -1), -1);
        due("k 10", x.sea(10, -1), -1);
        due("k MAX", x.sea(MAX, -1), -1);
        due("k MIN", x.sea(MIN, 0), -1);
        due("where it is", x.sea(0, 0), 1);
        due("the sea", x.sea(0, 1), 0);
        due("one more", x.sea(0, 2), -1);
        due("i -2", x.sea(0, -2), -1);
        due("i MIN", x.sea(0, MIN), -1);
        due("i MAX", x.sea(0, MAX), -1);
        x.gate(0, 1);
        x.gate(1, 2);
        due("no way: days", x.sea(0, -1), -1);
        due("no way: where it is", x.sea(0, 0), -1);
        due("by one gate", x.sea(1, -1), 4);
        due("no springs: days", new EelClerk().sea(0, -1), -1);
        due("no springs: where it is", new EelClerk().sea(9, 0), -1);
        EelClerk sea = Parishes.parish();
        due("at the sea: days", sea.sea(0, -1), 0);
        due("at the sea: where it is", sea.sea(0, 0), 0);
        due("at the sea: one more", sea.sea(0, 1), -1);
        EelClerk nine = Parishes.inRow(1, 1, 1, 1, 1, 1, 1, 1);
        for (int i = 1; i < 9; i++) {
            nine.swim(i);
            nine.gate(i - 1, i);
        }
        due("seven of eight gates", nine.sea(7, -1), -1);
        due("eight of eight gates", nine.sea(8, -1), 8);
        due("the sea, ninth", nine.sea(9, 8), 0);
        due("no tenth", nine.sea(9, 9), -1);
    }

    private static void heard() {
        e.words(29, "HEARD: how often there was. -1 (a DAY 0 .. 999); -2; -5.");
        EelClerk x = Parishes.parish();
        refused(x, "day 1000", y -> y.heard(0, 1000), -1);
        refused(x, "day -1", y -> y.heard(0, -1), -1);
        refused(x, "day MAX", y -> y.heard(0, MAX), -1);
        refused(x, "day -1 at none such", y -> y.heard(4, -1), -1);
        refused(x, "spring 4", y -> y.heard(4, 0), -2);
        refused(x, "spring -1", y -> y.heard(-1, 0), -2);
        refused(x, "spring MIN", y -> y.heard(MIN, 999), -2);
        refused(new EelClerk(), "without springs", y -> y.heard(0, 0), -2);
        due("day 0", x.heard(3, 0), 1);
        due("day 999", x.heard(3, 999), 2);
        for (int i = 3; i <= 6; i++) {
            due("the same once more", x.heard(0, 5), i);
        }
        refused(x, "a seventh", y -> y.heard(0, 5), -5);
        refused(x, "a seventh at none such", y -> y.heard(4, 5), -2);
        refused(x, "a seventh on day 1000", y -> y.heard(0, 1000), -1);
        e.words(29, "It leaves what can be undone");
        EelClerk w = Parishes.parish();
        w.pass();
        w.heard(0, 0);
        due("undo()", w.undo(), 3);
        due("what was heard stays", w.count(4), 1);
    }

    private static void forget() {
        e.words(30, "HEARD is nothing then: how often there was.");
        EelClerk x = Parishes.parish();
        due("nothing", x.forget(), 0);
        for (int i = 0; i < 6; i++) {
            x.heard(0, i);
        }
        due("six", x.forget(), 6);
        due("nothing then", x.count(4), 0);
        due("nothing then", x.canBe(), 15);
        due("nothing then", x.forget(), 0);
        due("there is room again", x.heard(3, 9), 1);
        due("and nothing of what was", x.canBe(), 11 + 4);
        due("without springs", new EelClerk().forget(), 0);
    }

    private static void canBe() {
        e.words(31, "IT CAN BE, as bits.");
        due("without springs", new EelClerk().canBe(), 0);
        EelClerk x = Parishes.parish();
        due("nothing heard", x.canBe(), 15);
        x.heard(3, 0);
        due("one alone", x.canBe(), 8);
        x.heard(3, 1);
        due("none", x.canBe(), 0);
        EelClerk nine = Parishes.inRow(1, 1, 1, 1, 1, 1, 1, 1);
        nine.heard(8, 8);
        due("nine", nine.canBe(), 511);
    }

    private static void since() {
        e.words(32, "SINCE, if it began at a SPRING. NONE (nothing was HEARD; it can't be; no such SPRING).");
        EelClerk x = Parishes.parish();
        due("nothing was heard", x.since(0), -1);
        x.heard(1, 4);
        due("day 0", x.since(0), 0);
        due("where it was heard", x.since(1), 4);
        due("it can't be", x.since(3), -1);
        due("spring 4", x.since(4), -1);
        due("spring -1", x.since(-1), -1);
        due("spring MAX", x.since(MAX), -1);
        x.heard(1, 999);
        due("two days can't be", x.since(0), -1);
        x.forget();
        x.heard(3, 999);
        due("day 999", x.since(3), 999);
        x.forget();
        due("nothing any more", x.since(3), -1);
        due("without springs", new EelClerk().since(0), -1);
    }

    private static void listen() {
        e.words(33, "the SPRING (what 0), how many SPRINGS are left at most (1). NONE (it can be none).");
        EelClerk x = Parishes.parish();
        due("spring", x.listen(0), 0);
        due("left", x.listen(1), 1);
        due("what 2", x.listen(2), -1);
        due("what -1", x.listen(-1), -1);
        due("what MAX", x.listen(MAX), -1);
        x.heard(0, 0);
        x.heard(0, 1);
        due("it can be none", x.listen(0), -1);
        due("it can be none: left", x.listen(1), -1);
        due("without springs", new EelClerk().listen(0), -1);
        due("without springs: left", new EelClerk().listen(1), -1);
        EelClerk apart = new EelClerk();
        for (int i = 0; i < 9; i++) {
            apart.spring(0, 0);
        }
        due("nine apart: it comes to one, never from eight", apart.listen(1), 8);
        due("nine apart: the lowest", apart.listen(0), 0);
    }

    private static void few() {
        e.words(34, "FEW, k 1 .. 20, n 0 .. 99. NONE.");
        EelClerk x = new EelClerk();
        due("k 1, n 0", x.few(1, 0), 1000000000000L);
        due("k 20, n 0", x.few(20, 0), 1000000000000L);
        due("k 20, n 1", x.few(20, 1), 1000000000000L);
        due("k 0", x.few(0, 0), -1);
        due("k 21", x.few(21, 0), -1);
        due("k MIN", x.few(MIN, 0), -1);
        due("k MAX", x.few(MAX, 0), -1);
        due("n -1", x.few(1, -1), -1);
        due("n 100", x.few(1, 100), -1);
        due("n MIN", x.few(1, MIN), -1);
        due("n MAX", x.few(1, MAX), -1);
        x.terms(1, 10);
        due("k 20, n 19: all slip", x.few(20, 19), 1000000000000L);
        due("k 20, n 20: all slip", x.few(20, 20), 0);
        due("k 20, n 99: all slip", x.few(20, 99), 0);
        x.terms(1, 0);
        due("k 1, n 99: none slips", x.few(1, 99), 1000000000000L);
        due("NONE is not refused", x.status() + x.count(8), 0);
    }

    private static void compare() {
        e.words(35, "NONE (no such LAW; as for soon())");
        EelClerk x = sixLaws();
        due("none", x.compare(-1, 0, 2), 7);
        due("the first", x.compare(0, 0, 2), 1);
        due("the last", x.compare(5, 0, 2), 6);
        due("law 6", x.compare(6, 0, 2), -1);
        due("law -2", x.compare(-2, 0, 2), -1);
        due("law MAX", x.compare(MAX, 0, 2), -1);
        due("law MIN", x.compare(MIN, 0, 2), -1);
        due("no such law, to itself", x.compare(6, 0, 0), -1);
        due("to none such", x.compare(0, 0, 4), -1);
        due("from none such", x.compare(-1, 4, 0), -1);
        due("none such to itself", x.compare(0, -1, -1), -1);
        due("MIN to MAX", x.compare(0, MIN, MAX), -1);
        x.gate(2, 3);
        due("never", x.compare(0, 0, 3), -1);
        due("to itself", x.compare(0, 3, 3), 0);
        due("without laws", Parishes.parish().compare(0, 0, 2), -1);
        due("without springs", new EelClerk().compare(-1, 0, 0), -1);
    }

    private static void years() {
        e.words(36, "-1; -3 there are no SPRINGS");
        EelClerk x = Parishes.parish();
        refused(x, "seed -1", y -> y.years(-1, 1), -1);
        refused(x, "seed 1000001", y -> y.years(1000001, 1), -1);
        refused(x, "seed MIN", y -> y.years(MIN, 1), -1);
        refused(x, "seed MAX", y -> y.years(MAX, 1), -1);
        refused(x, "n 0", y -> y.years(0, 0), -1);
        refused(x, "n 61", y -> y.years(0, 61), -1);
        refused(x, "n MIN", y -> y.years(0, MIN), -1);
        refused(x, "n MAX", y -> y.years(0, MAX), -1);
        refused(new EelClerk(), "no springs", y -> y.years(0, 1), -3);
        refused(new EelClerk(), "no springs, n 0", y -> y.years(0, 0), -1);
        refused(new EelClerk(), "no springs, seed -1", y -> y.years(-1, 1), -1);
        due("seed 0", x.years(0, 1), 0);
        due("seed 1000000", x.years(1000000, 1) >= 0 ? x.status() : -1, 0);
        due("n 60", x.years(0, 60) >= 0 ? x.status() : -1, 0);
        e.words(36, "YEARS, kept as the latest: how many DAYS all SWIMMING took together.");
        EelClerk one = Parishes.inRow();
        due("one spring: it can't swim", one.years(5, 60), 0);
        due("the latest", one.drawn(0, 1), 1);
        EelClerk two = Parishes.inRow(50);
        long swum = 0;
        int most = 0;
        for (int seed = 0; seed < 30; seed++) {
            int told = two.years(seed, 60);
            due("by fifties: " + seed, told % 50, 0);
            due("there and back: " + seed, told / 50 % 2, two.drawn(1, 1));
            swum += told;
            most = Math.max(most, told);
        }
        due("some swim more than once", swum > 0 && most > 50 ? 1 : 0, 1);
        due("on paper: where it is, shut, mud, day", two.count(1) + two.count(3) + two.of(1, 1) + two.count(14), 0);
    }

    private static void drawn() {
        e.words(37, "Behind the latest YEARS MUD of SPRING k (what 0), whether the EEL is there (1: 1, 0). NONE.");
        EelClerk x = Parishes.parish();
        due("ahead of any", x.drawn(0, 0), -1);
        due("ahead of any", x.drawn(0, 1), -1);
        x.years(0, 0);
        due("behind a refused one", x.drawn(0, 0), -1);
        x.years(0, 1);
        due("mud of the first", x.drawn(0, 0), 1);
        due("mud of the second: stirred", x.drawn(1, 0), 9);
        due("mud of the last", x.drawn(3, 0), 9);
        due("there", x.drawn(0, 1), 1);
        due("not there", x.drawn(3, 1), 0);
        due("what 2", x.drawn(0, 2), -1);
        due("what -1", x.drawn(0, -1), -1);
        due("what MAX", x.drawn(0, MAX), -1);
        for (int what = 0; what <= 1; what++) {
            due("spring 4", x.drawn(4, what), -1);
            due("spring -1", x.drawn(-1, what), -1);
            due("spring MAX", x.drawn(MAX, what), -1);
        }
        x.years(-1, 1);
        due("a refused one leaves it", x.drawn(1, 0), 9);
        x.spring(0, 0);
        due("a spring that was not there", x.drawn(4, 0), -1);
        x.terms(0, 999);
        x.years(0, 1);
        due("the latest", x.drawn(1, 0), 2);
        due("the spring is there", x.drawn(4, 0), 0);
    }

    private static void image() {
        e.words(38, "IMAGE k is kept: 0; -1.");
        EelClerk x = Parishes.parish();
        refused(x, "image 2", y -> y.image(2), -1);
        refused(x, "image -1", y -> y.image(-1), -1);
        refused(x, "image MAX", y -> y.image(MAX), -1);
        refused(x, "image MIN", y -> y.image(MIN), -1);
        due("image 0", x.image(0), 0);
        x.spring(0, 0);
        due("image 1", x.image(1), 0);
        due("status()", x.status(), 0);
        x.spring(0, 0);
        x.back(0);
        due("what 0 keeps", x.count(0), 4);
        x.back(1);
        due("what 1 keeps", x.count(0), 5);
        due("image 0 anew", x.image(0), 0);
        x.spring(0, 0);
        x.back(0);
        due("what 0 keeps then", x.count(0), 5);
        due("of a new object", new EelClerk().image(1), 0);
    }

    private static void back() {
        e.words(39, "0. -1; -2 it was not kept.");
        EelClerk x = Parishes.parish();
        refused(x, "image 2", y -> y.back(2), -1);
        refused(x, "image -1", y -> y.back(-1), -1);
        refused(x, "image MAX", y -> y.back(MAX), -1);
        refused(x, "image MIN", y -> y.back(MIN), -1);
        refused(x, "image 0", y -> y.back(0), -2);
        refused(x, "image 1", y -> y.back(1), -2);
        x.image(1);
        refused(x, "image 0, when 1 is kept", y -> y.back(0), -2);
        due("image 1", x.back(1), 0);
        due("status()", x.status(), 0);
        x.pass();
        due("image 1 once more", x.back(1), 0);
        due("as it was", x.count(14), 0);
        EelClerk dry = new EelClerk();
        dry.image(0);
        dry.spring(0, 0);
        due("to none", dry.back(0), 0);
        due("springs", dry.count(0), 0);
    }

    private static void countNumbers() {
        e.words(40, "2 CHANNELS (each once)");
        EelClerk x = new EelClerk();
        for (int i = 0; i < 9; i++) {
            x.spring(0, 0);
        }
        for (int one = 0; one < 9; one++) {
            for (int other = 0; other < one; other++) {
                x.channel(one, other, 5);
            }
        }
        due("as many as there can be", x.count(2), 36);
        for (int one = 0; one < 9; one++) {
            for (int other = 0; other < one; other++) {
                x.gate(other, one);
            }
        }
        e.words(40, "0 SPRINGS");
        due("as many as there can be", x.count(0), 9);
        e.words(40, "1 where the EEL is");
        x.gate(0, 8);
        x.swim(8);
        due("at the last", x.count(1), 8);
        e.words(40, "3 how many of them are SHUT");
        due("all but one", x.count(3), 35);
        x.gate(8, 0);
        due("all", x.count(3), 36);
        e.words(40, "4 HEARD");
        for (int i = 0; i < 6; i++) {
            x.heard(0, 0);
        }
        due("as often as there can be", x.count(4), 6);
        e.words(40, "5 LAWS");
        due("none", x.count(5), 0);
        Checks.law(x, "bars");
        due("one", x.count(5), 1);
        e.words(40, "6 how many can be undone");
        due("sixteen at most", x.count(6), 16);
        x.undo();
        due("one less", x.count(6), 15);
        e.words(40, "7 bytes of the TAPE");
        due("none", x.count(7), 0);
        x.feed(0, 0, 0, 0, 0);
        due("twenty", x.count(7), 20);
        e.words(40, "13 the LAW in FORCE");
        due("none", x.count(13), -1);
        x.force(0);
        due("the first", x.count(13), 0);
        e.words(40, "14 .. 16 TERMS 0 .. 2. NONE for others.");
        x.terms(0, 998);
        x.terms(1, 7);
        x.terms(2, 6);
        due("day", x.count(14), 998);
        due("slips", x.count(15), 7);
        due("mood", x.count(16), 6);
        due("17", x.count(17), -1);
        due("-1", x.count(-1), -1);
        due("MAX", x.count(MAX), -1);
        due("MIN", x.count(MIN), -1);
    }

    private static void countRefused() {
        e.words(40, "8 .. 12 how many calls were REFUSED by -1, -2, -3, -5, -6 (IMAGES do not keep that)");
        EelClerk x = Parishes.parish();
        for (int i = 0; i < 6; i++) {
            x.heard(0, 0);
        }
        x.image(0);
        Call[] refusals = {y -> y.spring(10, 0), y -> y.swim(9), y -> y.swim(0), y -> y.heard(0, 0), y -> y.row()};
        for (int i = 0; i < 5; i++) {
            for (int j = 0; j < 5; j++) {
                due("count(" + (8 + j) + ") ahead of " + i, x.count(8 + j), j < i ? 1 : 0);
            }
            refusals[i].on(x);
        }
        for (int j = 0; j < 5; j++) {
            refusals[j].on(x);
            due("two of " + j, x.count(8 + j), 2);
        }
        x.back(0);
        for (int j = 0; j < 5; j++) {
            due("behind back(): " + j, x.count(8 + j), 2);
        }
        x.of(9, 0);
        x.between(0, 0, 0);
        x.feed(0, 0, 0, 0, 0);
        x.end(21);
        x.end(0);
        x.soon(9, 9);
        x.centre(2);
        x.few(0, 0);
        x.count(17);
        for (int j = 0; j < 5; j++) {
            due("NONE is not refused: " + j, x.count(8 + j), 2);
        }
        Checks.orders(x, "swim 9");
        due("what one of the orders is refused by does not count", x.count(9), 2);
        due("the orders do", x.count(10), 3);
    }

    private static void statusRefused() {
        e.words(41, "What the latest call of spring, channel, terms, row, law, orders, force, swim, gate, stir, pass, undo, "
                + "heard, years, image, back was REFUSED by; 0 if it was not, or ahead of any.");
        due("ahead of any", new EelClerk().status(), 0);
        EelClerk x = Parishes.parish();
        x.image(1);
        String[] names = {"spring", "channel", "terms", "row", "law", "orders", "force", "swim", "gate", "stir", "pass", "undo",
            "heard", "years", "image", "back"};
        Call[] refused = {y -> y.spring(10, 0), y -> y.channel(0, 0, 1), y -> y.terms(3, 0), y -> y.row(), y -> y.law(),
            y -> y.orders(), y -> y.force(9), y -> y.swim(9), y -> y.gate(0, 3), y -> y.stir(0, 10), y -> y.pass(),
            y -> y.undo(), y -> y.heard(9, 0), y -> y.years(0, 0), y -> y.image(2), y -> y.back(0)};
        int[] by = {-1, -1, -1, -6, -6, -6, -2, -2, -3, -1, -3, -3, -2, -1, -1, -2};
        Call[] granted = {y -> y.spring(0, 0), y -> y.channel(0, 1, 4), y -> y.terms(2, 0), y -> Checks.row(y, 9),
            y -> Checks.law(y, "bars if 1=2"), y -> Checks.orders(y, "stir 0 to 3"), y -> y.force(-1), y -> y.swim(2 - y.count(1)),
            y -> y.gate(0, 1), y -> y.stir(1, 3), y -> y.pass(), y -> y.undo(), y -> y.heard(0, 0), y -> y.years(0, 1),
            y -> y.image(1), y -> y.back(1)};
        for (int i = 0; i < names.length; i++) {
            x.terms(0, names[i].equals("pass") ? 999 : 7);
            if (names[i].equals("undo")) {
                x.terms(0, 8);
            }
            due(names[i] + " refused", refused[i].on(x), by[i]);
            due("status() behind " + names[i] + " refused", x.status(), by[i]);
            if (names[i].equals("pass")) {
                x.terms(0, 5);
            }
            if (names[i].equals("undo")) {
                x.gate(0, 2);
            }
            x.swim(9);
            due("status() ahead of " + names[i], x.status(), -2);
            due(names[i] + " granted", granted[i].on(x) >= -1 ? 1 : 0, 1);
            due("status() behind " + names[i] + " granted", x.status(), 0);
        }
    }

    private static void statusLeft() {
        e.words(41, "What the latest call of spring, channel, terms, row, law, orders, force, swim, gate, stir, pass, undo, "
                + "heard, years, image, back was REFUSED by");
        Call[] others = {y -> y.of(0, 0), y -> y.between(0, 1, 0), y -> y.feed(0, 0, 0, 0, 0), y -> y.end(0), y -> y.end(9),
            y -> y.bubbles(), y -> y.fault(), y -> y.stopped(), y -> y.soon(0, 1), y -> y.way(0, 1, 0), y -> y.never(0),
            y -> y.centre(0), y -> y.round(3, -1), y -> y.bound(0, 1, 0), y -> y.share(1, 0), y -> y.sea(0, -1),
            y -> y.forget(), y -> y.canBe(), y -> y.since(0), y -> y.listen(0), y -> (int) y.few(1, 1),
            y -> y.compare(-1, 0, 1), y -> y.drawn(0, 0), y -> y.count(0), y -> y.status()};
        EelClerk x = Parishes.parish();
        x.stir(0, 1);
        for (int i = 0; i < others.length; i++) {
            others[i].on(x);
            due("another call leaves a refusal: " + i, x.status(), -3);
        }
        x.pass();
        x.soon(9, 9);
        x.between(0, 0, 0);
        due("NONE is no refusal", x.status(), 0);
    }
}
