/** Each promise of the document by its number: ordinary calls, the edges that it names, wrong ones. */
public final class PromisesTest {
    private static final Checks C = new Checks();
    private static final int MIN = Integer.MIN_VALUE;
    private static final int MAX = Integer.MAX_VALUE;

    public static void main(String[] args) {
        newObject();
        spring();
        channel();
        of();
        between();
        terms();
        feed();
        end();
        row();
        bubbles();
        law();
        orders();
        fault();
        stopped();
        force();
        swim();
        gate();
        stir();
        pass();
        undo();
        soon();
        way();
        never();
        centre();
        round();
        bound();
        share();
        sea();
        heard();
        forget();
        canBe();
        since();
        listen();
        few();
        compare();
        years();
        drawn();
        image();
        back();
        count();
        status();
        C.close("PromisesTest");
    }

    private static void due(String call, long got, long want) {
        C.due(call, got, want);
    }

    private static EelClerk parish() {
        return Parishes.parish();
    }

    private static EelClerk inRow(int... fars) {
        return Parishes.inRow(fars);
    }

    private static void inForce(EelClerk x, String text) {
        Parishes.inForce(x, text);
    }

    private static void newObject() {
        EelClerk x = new EelClerk();
        int[] counts = {0, 0, 0, 0, 0, 0, 0, 0, 0, 0, 0, 0, 0, -1, 0, 1, 0};
        for (int what = 0; what < counts.length; what++) {
            due("1 count " + what, x.count(what), counts[what]);
        }
        due("1 status", x.status(), 0);
        due("1 fault", x.fault(), -1);
        due("1 stopped", x.stopped(), -1);
        due("1 bubbles", x.bubbles(), 0);
        due("1 drawn", x.drawn(0, 0), -1);
        due("1 NONE", EelClerk.NONE, -1);
    }

    private static void spring() {
        EelClerk x = new EelClerk();
        due("2 level", x.spring(-1, 0), -1);
        due("2 level", x.spring(10, 0), -1);
        due("2 mud", x.spring(0, -1), -1);
        due("2 mud", x.spring(0, 10), -1);
        due("2 both", x.spring(MAX, MIN), -1);
        for (int i = 0; i < 9; i++) {
            due("2 spring", x.spring(i, 9 - i), i);
        }
        due("2 no room", x.spring(0, 0), -5);
        due("2 status", x.status(), -5);
        due("2 a number ahead of room", x.spring(0, 10), -1);
        due("2 level", x.of(8, 0), 8);
        due("2 mud", x.of(8, 1), 1);
        due("2 many", x.count(0), 9);
    }

    private static void channel() {
        EelClerk x = inRow(4, 3);
        due("3 was", x.channel(0, 1, 50), 4);
        due("3 was", x.channel(1, 0, 7), 50);
        due("3 both ways", x.between(0, 1, 0), 7);
        due("3 far", x.channel(0, 1, 51), -1);
        due("3 far", x.channel(0, 1, -1), -1);
        due("3 one alone", x.channel(1, 1, 5), -1);
        due("3 one alone that is not", x.channel(7, 7, 5), -1);
        due("3 no such", x.channel(0, 3, 5), -2);
        due("3 no such", x.channel(-1, 0, 5), -2);
        due("3 no such", x.channel(MIN, MAX, 0), -2);
        due("3 a number ahead of no such", x.channel(0, 9, 51), -1);
        x.gate(0, 1);
        due("3 was, shut", x.channel(0, 1, 6), 7);
        due("3 not shut then", x.between(0, 1, 1), 0);
        x.gate(0, 1);
        due("3 none then", x.channel(0, 1, 0), 6);
        due("3 none then", x.count(2), 1);
        due("3 none is shut", x.count(3), 0);
        due("3 none again", x.channel(0, 1, 0), 0);
        due("3 from none", x.channel(0, 1, 1), 0);
        due("3 not shut", x.between(0, 1, 1), 0);
    }

    private static void of() {
        EelClerk x = parish();
        due("4 level", x.of(3, 0), 9);
        due("4 mud", x.of(1, 1), 2);
        due("4 without a law", x.of(3, 2), 9);
        due("4 others", x.of(3, 3), -1);
        due("4 others", x.of(3, -1), -1);
        due("4 no such", x.of(4, 0), -1);
        due("4 no such", x.of(-1, 1), -1);
        inForce(x, "settles mud*2-3; settles 5 if from = 2; settles 1/0 if from=1");
        due("4 the lowest", x.of(0, 2), 0);
        due("4 the nearest", x.of(3, 2), 9);
        due("4 broken does not hold", x.of(1, 2), 1);
        due("4 the last", x.of(2, 2), 5);
        EelClerk y = parish();
        inForce(y, "settles 7 + to + far + fall if to = 0-1 and far = 0-1 and fall = 0; takes 5 + fall");
        due("4 a channel ahead", y.between(2, 1, 2), 7);
        due("4 to, far -1, fall 0", y.of(1, 2), 5);
        inForce(y, "settles day % 10 + mood");
        y.terms(0, 123);
        y.terms(2, 4);
        due("4 day, mood", y.of(0, 2), 7);
    }

    private static void between() {
        EelClerk x = parish();
        due("5 far", x.between(2, 0, 0), 9);
        due("5 none", x.between(0, 3, 0), 0);
        due("5 none is not shut", x.between(0, 3, 1), 0);
        for (int what = 2; what <= 4; what++) {
            due("5 none", x.between(0, 3, what), -1);
        }
        due("5 takes", x.between(0, 2, 2), 9);
        due("5 weighs", x.between(0, 2, 3), 1);
        due("5 bars", x.between(0, 2, 4), 0);
        due("5 one alone", x.between(1, 1, 0), -1);
        due("5 no such", x.between(0, 4, 0), -1);
        due("5 no such", x.between(-1, 1, 1), -1);
        due("5 others", x.between(0, 1, 5), -1);
        due("5 others", x.between(0, 1, -1), -1);
        inForce(x, "takes far*30-100; weighs fall*20+50; bars if from=2 and mud=2");
        due("5 takes at least", x.between(1, 2, 2), 1);
        due("5 takes", x.between(0, 1, 2), 20);
        due("5 takes at most", x.between(0, 2, 2), 99);
        due("5 weighs at least", x.between(0, 2, 3), 0);
        due("5 weighs at most", x.between(2, 0, 3), 99);
        due("5 weighs", x.between(1, 2, 3), 10);
        due("5 bars", x.between(2, 1, 4), 1);
        due("5 bars the other way", x.between(1, 2, 4), 0);
        x.gate(2, 1);
        due("5 shut", x.between(1, 2, 1), 1);
        due("5 takes, shut", x.between(1, 2, 2), 1);
        due("5 bars, shut", x.between(2, 1, 4), 1);
        inForce(x, "takes [1000+1]/13 if from<to; takes 5 if 1/0=1; weighs 2 if from=1; weighs from+1 if mood=3");
        x.terms(2, 3);
        due("5 the last that holds", x.between(0, 1, 2), 77);
        due("5 the other way: far", x.between(1, 0, 2), 4);
        due("5 the last that holds", x.between(1, 0, 3), 2);
    }

    private static void terms() {
        EelClerk x = new EelClerk();
        due("6 day", x.terms(0, 999), 0);
        due("6 day", x.terms(0, 3), 999);
        due("6 slips", x.terms(1, 10), 1);
        due("6 slips", x.terms(1, 0), 10);
        due("6 mood", x.terms(2, 9), 0);
        due("6 wrong day", x.terms(0, 1000), -1);
        due("6 wrong day", x.terms(0, -1), -1);
        due("6 wrong slips", x.terms(1, 11), -1);
        due("6 wrong slips", x.terms(1, -1), -1);
        due("6 wrong mood", x.terms(2, 10), -1);
        due("6 wrong mood", x.terms(2, -1), -1);
        due("6 wrong term", x.terms(3, 0), -1);
        due("6 wrong term", x.terms(-1, 0), -1);
        due("6 as they are", x.count(14) * 100 + x.count(15) * 10 + x.count(16), 309);
    }

    private static void feed() {
        EelClerk x = new EelClerk();
        for (int bytes = 20; bytes <= 400; bytes += 20) {
            due("7 feed", x.feed(0, 0, 0, 0, 0), bytes);
        }
        due("7 full", x.feed(0, 0, 0, 0, 0), -1);
        x.end(381);
        due("7 too much", x.feed(0, 0, 0, 0, 0), -1);
        due("7 as it was", x.count(7), 381);
        x.end(380);
        due("7 just so", x.feed(0, 0, 0, 0, 0), 400);
        EelClerk y = inRow(1, 1);
        y.feed(0x00010100, 0x02020001, 0x03010202, 0x00010400, 0x0232ff00);
        due("7 the highest first", y.row(), 6);
        due("7 bubbles", y.bubbles(), 1);
        due("7 the bytes", y.between(0, 1, 0) * 1000 + y.between(1, 2, 0) * 100 + y.between(0, 2, 0), 4250);
        due("7 is not refused", y.status(), 0);
    }

    private static void end() {
        EelClerk x = new EelClerk();
        due("8 of none", x.end(0), 0);
        due("8 of none", x.end(1), -1);
        x.feed(1, 2, 3, 4, 5);
        due("8 too many", x.end(21), -1);
        due("8 below 0", x.end(-1), -1);
        due("8 all", x.end(20), 20);
        due("8 less", x.end(3), 3);
        due("8 not so many any more", x.end(4), -1);
        due("8 the tape", x.count(7), 3);
        due("8 behind it", x.feed(0, 0, 0, 0, 0), 23);
        due("8 status", x.status(), 0);
    }

    private static void row() {
        EelClerk x = inRow(1, 1);
        due("9 empty", x.row(), -6);
        due("9 status", x.status(), -6);
        x.gate(0, 1);
        due("9 row", Checks.row(x, 1, 0, 50, 0, 2, 7, 1, 2, 0), 3);
        due("9 far", x.between(0, 1, 0), 50);
        due("9 not shut", x.between(0, 1, 1), 0);
        due("9 far", x.between(2, 0, 0), 7);
        due("9 none", x.between(1, 2, 0), 0);
        due("9 the tape is empty", x.count(7), 0);
        due("9 nothing to undo", x.undo(), -3);
        x.gate(0, 1);
        due("9 bubbles alone", Checks.row(x, 1, 1, 5), 0);
        due("9 nothing to undo", x.count(6), 0);
        due("9 still shut", x.between(0, 1, 1), 1);
        due("9 the last one counts", Checks.row(x, 0, 1, 5, 0, 1, 6), 2);
        due("9 the last one counts", x.between(0, 1, 0), 6);
    }

    private static void bubbles() {
        EelClerk x = inRow(1, 1);
        Checks.row(x, 0, 1, 51, 0, 3, 1, 3, 0, 1, 2, 2, 2, 0, 1, 200, 255, 0, 1, 0, 1, 2, 0, 1);
        due("10 bubbles", x.bubbles(), 7);
        due("10 refused", x.row(), -6);
        due("10 as ahead", x.bubbles(), 7);
        due("10 one byte", Checks.row(x, 0), 0);
        due("10 one byte", x.bubbles(), 1);
        Checks.row(x, 0, 1, 2);
        due("10 none", x.bubbles(), 0);
    }

    private static void law() {
        EelClerk x = parish();
        x.gate(0, 1);
        due("11 a law", Checks.law(x, "takes 5"), 0);
        due("11 not in force", x.count(13), -1);
        due("11 leaves what can be undone", x.count(6), 1);
        due("11 the tape is empty", x.count(7), 0);
        due("11 none", x.law(), -6);
        due("11 none", x.fault(), 0);
        due("11 blanks", Checks.law(x, "    "), -6);
        due("11 blanks", x.fault(), 4);
        due("11 the tape is empty", x.count(7), 0);
        due("11 orders are no law", Checks.law(x, "pass"), -6);
        for (int i = 1; i < 6; i++) {
            due("11 more laws", Checks.law(x, "weighs " + i), i);
        }
        due("11 no room", Checks.law(x, "take"), -5);
        due("11 unread", x.fault(), -1);
        due("11 the tape is empty", x.count(7), 0);
        due("11 no room, nothing fed", x.law(), -5);
        due("11 laws", x.count(5), 6);
        due("11 undo", x.undo(), 1);
    }

    private static void orders() {
        EelClerk x = parish();
        due("12 orders", Checks.orders(x, "swim 1; gate 0 to 1 times 3; stir 2 to 4; pass times 2"), 7);
        due("12 at", x.count(1), 1);
        due("12 shut", x.count(3), 1);
        due("12 mud", x.of(2, 1), 4);
        due("12 day", x.count(14), 2);
        due("12 undo", x.count(6), 7);
        due("12 the tape is empty", x.count(7), 0);
        due("12 can't be", Checks.orders(x, "pass times 20; stir 0 to 5; swim 3"), -3);
        due("12 as it was: day", x.count(14), 2);
        due("12 as it was: mud", x.of(0, 1), 1);
        due("12 as it was: undo", x.count(6), 7);
        due("12 as it was: the latest", x.undo(), 3);
        due("12 counted once", x.count(10), 1);
        due("12 none", x.orders(), -6);
        due("12 blanks", Checks.orders(x, " "), -6);
        due("12 a law is no order", Checks.orders(x, "takes 1"), -6);
        due("12 nothing is run", Checks.orders(x, "pass if 1 > 2; swim 9 if 1/0 = 1"), 0);
        due("12 words", Checks.orders(x, "swim 2; stir 0 to latest; stir 1 to done+at+day; pass if shut = 1"), 4);
        due("12 latest", x.of(0, 1), 3);
        due("12 done, at, day", x.of(1, 1), 5);
        due("12 mud, soon", Checks.orders(x, "stir 3 to mud 1; stir 2 to soon 1; gate 1 to 2; gate 2 to 3 if soon 1 = 12"), 3);
        due("12 mud", x.of(3, 1), 5);
        due("12 soon", x.of(2, 1), 3);
        due("12 none such", Checks.orders(x, "pass if mud 4 = 0-1 and soon 8 = 0-1 and mud 3 = 5 and latest = 0-1"), 1);
        due("12 a broken sum", Checks.orders(x, "pass; swim 1/0"), -3);
        due("12 a broken sum behind", Checks.orders(x, "stir 0 to 1000*1000*1000+1"), -3);
        due("12 asked each time", Checks.orders(x, "pass times 20 if done < 7"), 7);
        rolledBack();
        due("12 one alone", Checks.orders(x, "gate 1 to 1"), -3);
        due("12 far beyond", Checks.orders(x, "swim 1000*1000*1000"), -3);
    }

    /** What can be undone is as it was ahead of orders that ran beyond the sixteen that are kept. */
    private static void rolledBack() {
        EelClerk x = parish();
        x.image(0);
        for (int i = 0; i < 5; i++) {
            x.stir(0, 2 + i);
            x.pass();
            x.gate(0, 1);
            x.swim(i % 2 == 0 ? 2 : 0);
        }
        due("12 beyond sixteen", Checks.orders(x, "stir 1 to 9; pass times 20; gate 2 to 3 times 3; swim 3"), -3);
        due("12 at", x.count(1), 2);
        for (int i = 4; i > 0; i--) {
            due("12 undo swim", x.undo(), 0);
            due("12 at", x.count(1), i % 2 == 0 ? 0 : 2);
            due("12 undo gate", x.undo(), 1);
            due("12 shut", x.between(0, 1, 1), i % 2);
            due("12 undo pass", x.undo(), 3);
            due("12 day", x.count(14), i);
            due("12 undo stir", x.undo(), 2);
            due("12 mud", x.of(0, 1) * 10 + x.of(1, 1), (1 + i) * 10 + 2);
        }
        due("12 no more", x.undo(), -3);
    }

    private static void fault() {
        EelClerk x = parish();
        Checks.law(x, "takes 1 +");
        due("13 the end", x.fault(), 9);
        Checks.law(x, "takes 1 +   ");
        due("13 the end is the length", x.fault(), 12);
        Checks.orders(x, "pass ; ; pass");
        due("13 place", x.fault(), 7);
        Checks.orders(x, "pass");
        due("13 none", x.fault(), -1);
        Checks.law(x, "bars if far < 1001");
        due("13 number", x.fault(), 14);
        Checks.law(x, "bars if far < 0001000");
        due("13 none", x.fault(), -1);
        Checks.orders(x, "swim 9");
        due("13 what can't be is no fault", x.fault(), -1);
    }

    private static void stopped() {
        EelClerk x = parish();
        Checks.orders(x, "pass; pass; swim 3; swim 7");
        due("14 which", x.stopped(), 2);
        Checks.orders(x, "pass; pass;");
        due("14 refused by -6", x.stopped(), -1);
        Checks.orders(x, "swim 1; swim 2 times 2");
        due("14 the second time", x.stopped(), 1);
        Checks.orders(x, "swim 3");
        due("14 the first", x.stopped(), 0);
        Checks.law(x, "bars");
        due("14 a law leaves it", x.stopped(), 0);
        Checks.orders(x, "pass");
        due("14 done", x.stopped(), -1);
    }

    private static void force() {
        EelClerk x = parish();
        due("15 none to none", x.force(-1), -1);
        due("15 no such", x.force(0), -2);
        due("15 no such", x.force(-2), -2);
        Checks.law(x, "takes 8");
        Checks.law(x, "takes 9");
        x.swim(1);
        due("15 was", x.force(1), -1);
        due("15 in force", x.between(0, 1, 2), 9);
        due("15 was", x.force(0), 1);
        due("15 in force", x.between(0, 1, 2), 8);
        due("15 no such", x.force(2), -2);
        due("15 as it was", x.count(13), 0);
        due("15 leaves what can be undone", x.count(6), 1);
        due("15 none", x.force(EelClerk.NONE), 0);
        due("15 none", x.between(0, 1, 2), 4);
    }

    private static void swim() {
        EelClerk x = parish();
        due("16 where it is", x.swim(0), -3);
        due("16 no channel", x.swim(3), -3);
        due("16 no such", x.swim(4), -2);
        due("16 no such", x.swim(-1), -2);
        due("16 swim", x.swim(2), 9);
        due("16 at", x.count(1), 2);
        due("16 the day is the same", x.count(14), 0);
        x.gate(2, 3);
        due("16 shut", x.swim(3), -3);
        inForce(x, "bars if fall > 0; takes far + mud * 3 if mud > 1; takes 1 if day = 1");
        due("16 barred", x.swim(1), -3);
        x.gate(2, 3);
        due("16 takes", x.swim(3), 29);
        due("16 barred", x.swim(2), -3);
    }

    private static void gate() {
        EelClerk x = parish();
        due("17 shut", x.gate(1, 0), 1);
        due("17 shut", x.between(0, 1, 1), 1);
        due("17 no more", x.gate(0, 1), 0);
        due("17 no more", x.count(3), 0);
        due("17 one alone", x.gate(9, 9), -1);
        due("17 no such", x.gate(0, 4), -2);
        due("17 no such", x.gate(-1, 0), -2);
        due("17 no channel", x.gate(0, 3), -3);
        x.gate(0, 2);
        x.gate(2, 3);
        due("17 shut", x.count(3), 2);
    }

    private static void stir() {
        EelClerk x = parish();
        due("18 was", x.stir(3, 0), 9);
        due("18 was", x.stir(3, 9), 0);
        due("18 so", x.stir(3, 9), -3);
        due("18 mud", x.stir(3, 10), -1);
        due("18 mud", x.stir(3, -1), -1);
        due("18 mud ahead of spring", x.stir(4, -1), -1);
        due("18 no such", x.stir(4, 1), -2);
        due("18 no such", x.stir(-1, 1), -2);
        due("18 the others", x.of(0, 1) * 100 + x.of(1, 1) * 10 + x.of(2, 1), 120);
    }

    private static void pass() {
        EelClerk x = parish();
        due("19 without a law", x.pass(), 0);
        inForce(x, "settles mud - 1; settles mud + day if from = 2");
        due("19 others", x.pass(), 4);
        due("19 day as ahead", x.of(2, 1), 1);
        due("19 mud", x.of(0, 1) * 100 + x.of(1, 1) * 10 + x.of(3, 1), 18);
        due("19 others", x.pass(), 3);
        due("19 day", x.count(14), 3);
        x.terms(0, 998);
        due("19 to 999", x.pass(), 2);
        due("19 at 999", x.pass(), -3);
        due("19 as it was", x.count(14), 999);
        EelClerk y = new EelClerk();
        due("19 dry", y.pass(), 0);
        due("19 dry", y.count(14), 1);
    }

    private static void undo() {
        EelClerk x = parish();
        due("20 none", x.undo(), -3);
        x.swim(1);
        x.gate(0, 1);
        x.stir(0, 9);
        inForce(x, "settles 5");
        x.pass();
        due("20 pass", x.undo(), 3);
        due("20 day", x.count(14), 0);
        due("20 mud", x.of(0, 1) * 1000 + x.of(1, 1) * 100 + x.of(2, 1) * 10 + x.of(3, 1), 9209);
        due("20 stir", x.undo(), 2);
        due("20 mud", x.of(0, 1), 1);
        due("20 gate", x.undo(), 1);
        due("20 open", x.count(3), 0);
        due("20 swim", x.undo(), 0);
        due("20 at", x.count(1), 0);
        due("20 none", x.undo(), -3);
        due("20 the law stays", x.count(13), 0);
        x.force(-1);
        x.stir(0, 2);
        Checks.orders(x, "pass times 15");
        due("20 sixteen", x.count(6), 16);
        x.pass();
        due("20 sixteen", x.count(6), 16);
        for (int i = 15; i >= 0; i--) {
            due("20 pass", x.undo(), 3);
            due("20 day", x.count(14), i);
        }
        due("20 the oldest is not kept", x.undo(), -3);
        due("20 the oldest stays", x.of(0, 1), 2);
        cutOff();
    }

    private static void cutOff() {
        EelClerk x = parish();
        x.pass();
        x.spring(10, 0);
        x.channel(0, 0, 0);
        x.terms(3, 0);
        x.row();
        x.back(0);
        due("20 refused ones leave it", x.count(6), 1);
        x.heard(0, 5);
        x.forget();
        x.image(1);
        x.years(0, 5);
        Checks.law(x, "bars");
        x.force(0);
        x.force(-1);
        due("20 these leave it", x.count(6), 1);
        x.spring(0, 0);
        due("20 spring", x.undo(), -3);
        x.pass();
        x.channel(0, 3, 0);
        due("20 channel", x.undo(), -3);
        x.pass();
        x.terms(2, 0);
        due("20 terms", x.undo(), -3);
        x.pass();
        x.back(1);
        due("20 back", x.undo(), -3);
    }

    private static void soon() {
        EelClerk x = parish();
        due("21 soon", x.soon(0, 2), 7);
        due("21 soon", x.soon(3, 0), 9);
        due("21 itself", x.soon(3, 3), 0);
        due("21 no such", x.soon(4, 4), -1);
        due("21 no such", x.soon(0, -1), -1);
        x.gate(1, 2);
        due("21 not through a shut one", x.soon(0, 2), 9);
        x.gate(0, 2);
        due("21 never", x.soon(0, 2), -1);
        inForce(x, "takes 60 if from < to; bars if from = 2 and to = 3");
        x.gate(1, 2);
        due("21 more than 99 together", x.soon(0, 2), 120);
        due("21 the other way", x.soon(2, 0), 7);
        due("21 barred", x.soon(2, 3), -1);
        due("21 barred one way", x.soon(3, 2), 2);
    }

    private static void way() {
        EelClerk x = inRow(2, 2, 2);
        x.channel(0, 2, 4);
        x.channel(1, 3, 4);
        x.channel(0, 3, 6);
        due("22 the first as a row", x.way(0, 3, 0), 0);
        due("22 the first as a row", x.way(0, 3, 1), 1);
        due("22 the first as a row", x.way(0, 3, 2), 2);
        due("22 the first as a row", x.way(0, 3, 3), 3);
        due("22 not so many", x.way(0, 3, 4), -1);
        due("22 not so many", x.way(0, 3, MAX), -1);
        due("22 below 0", x.way(0, 3, -1), -1);
        due("22 back", x.way(3, 0, 1), 0);
        due("22 back", x.way(3, 0, 2), -1);
        due("22 itself", x.way(2, 2, 0), 2);
        due("22 itself", x.way(2, 2, 1), -1);
        due("22 no such", x.way(0, 4, 0), -1);
        EelClerk y = inRow(2);
        y.gate(0, 1);
        due("22 never", y.way(0, 1, 0), -1);
        due("22 itself all the same", y.way(1, 1, 0), 1);
    }

    private static void never() {
        EelClerk x = parish();
        due("23 none", x.never(0), 0);
        inForce(x, "bars if from = 1");
        due("23 from it", x.never(1), 13);
        due("23 to it", x.never(0), 0);
        x.gate(2, 3);
        due("23 shut", x.never(0), 8);
        due("23 alone", x.never(3), 7);
        due("23 no such", x.never(4), -1);
        due("23 no such", x.never(-1), -1);
    }

    private static void centre() {
        EelClerk x = parish();
        due("24 centre", x.centre(0), 1);
        due("24 days", x.centre(1), 5);
        due("24 others", x.centre(2), -1);
        due("24 others", x.centre(-1), -1);
        EelClerk y = inRow(3, 3, 3);
        due("24 the lowest", y.centre(0), 1);
        due("24 the lowest", y.centre(1), 6);
        inForce(y, "bars if from < 3 and from > 0");
        due("24 the one from which it comes", y.centre(0), -1);
        y.channel(0, 3, 1);
        y.channel(0, 2, 4);
        due("24 the one from which it comes", y.centre(0), 0);
        due("24 the one from which it comes", y.centre(1), 4);
        EelClerk z = inRow();
        due("24 one alone", z.centre(0), 0);
        due("24 one alone", z.centre(1), 0);
        z.spring(0, 0);
        due("24 none", z.centre(1), -1);
        due("24 dry", new EelClerk().centre(0), -1);
    }

    private static void round() {
        EelClerk x = parish();
        due("25 days", x.round(14, -1), 18);
        due("25 first", x.round(14, 0), 1);
        due("25 second", x.round(14, 1), 2);
        due("25 third", x.round(14, 2), 3);
        due("25 not so many", x.round(14, 3), -1);
        due("25 below", x.round(14, -2), -1);
        due("25 where it is aside", x.round(9, -1), 18);
        due("25 where it is aside", x.round(9, 0), 3);
        due("25 where it is aside", x.round(9, 1), -1);
        due("25 without others", x.round(1, -1), 0);
        due("25 without others", x.round(0, 0), -1);
        due("25 not there", x.round(16, -1), -1);
        due("25 not there", x.round(MIN, -1), -1);
        x.swim(2);
        due("25 from where it is", x.round(15, -1), 18);
        due("25 the first as a row", x.round(15, 0) * 100 + x.round(15, 1) * 10 + x.round(15, 2), 13);
        x.gate(2, 3);
        due("25 never", x.round(8, -1), -1);
        due("25 never", x.round(8, 0), -1);
        due("25 aside all the same", x.round(4, -1), 0);
        inForce(x, "bars if to = 2");
        due("25 not back", x.round(1, -1), -1);
        due("25 no springs", new EelClerk().round(0, -1), -1);
        EelClerk y = inRow(1, 1, 1, 1, 1, 1, 1, 1);
        y.swim(1);
        due("25 all nine", y.round(511, -1), 16);
        due("25 all nine", y.round(511, 0) * 10 + y.round(511, 7), 8);
        due("25 no ninth other", y.round(511, 8), -1);
        due("25 a tenth", y.round(512, -1), -1);
        due("25 the far end", y.round(256, -1) * 10 + y.round(256, 0), 148);
    }

    private static void bound() {
        EelClerk x = parish();
        due("26 weighs", x.bound(0, 3, 0), 1);
        due("26 set", x.bound(0, 3, 1), 7);
        due("26 back", x.bound(3, 0, 1), 8);
        due("26 the lowest", x.bound(0, 2, 0), 2);
        due("26 the lowest", x.bound(0, 2, 1), 1);
        due("26 one alone", x.bound(1, 1, 0), -1);
        due("26 no such", x.bound(0, 4, 0), -1);
        due("26 no such", x.bound(-1, 0, 0), -1);
        due("26 others", x.bound(0, 1, 2), -1);
        due("26 others", x.bound(0, 1, -1), -1);
        x.gate(0, 1);
        due("26 shut", x.bound(0, 2, 0), 1);
        x.gate(0, 1);
        inForce(x, "weighs 10; weighs 3 if from = 2; weighs 4 if to = 1; bars");
        due("26 by a law, barred", x.bound(0, 2, 0), 14);
        due("26 by a law", x.bound(0, 2, 1), 1);
        due("26 the other way", x.bound(2, 0, 0), 7);
        due("26 the other way", x.bound(2, 0, 1), 12);
        inForce(x, "weighs 0");
        due("26 nothing", x.bound(1, 3, 0), 0);
        due("26 nothing", x.bound(1, 3, 1), 2);
    }

    private static void share() {
        EelClerk x = parish();
        due("27 share", x.share(9, 2), 3);
        due("27 share", x.share(9, 1), 0);
        due("27 itself", x.share(15, 2), 2);
        due("27 none told", x.share(0, 0), -1);
        due("27 not there", x.share(17, 0), -1);
        due("27 not there", x.share(-1, 0), -1);
        due("27 no such", x.share(1, 4), -1);
        due("27 no such", x.share(1, -1), -1);
        EelClerk y = inRow(3, 3);
        due("27 the lowest", y.share(5, 1), 0);
        inForce(y, "takes 2 if from = 2; bars if to = 0");
        due("27 from it", y.share(5, 1), 2);
        due("27 never", y.share(6, 0), -1);
    }

    private static void sea() {
        EelClerk x = parish();
        due("28 there", x.sea(0, -1), 0);
        due("28 there", x.sea(9, 0), 0);
        due("28 there", x.sea(0, 1), -1);
        x.swim(2);
        x.swim(3);
        due("28 days", x.sea(0, -1), 9);
        due("28 way", x.sea(0, 0) * 1000 + x.sea(0, 1) * 100 + x.sea(0, 2) * 10 + x.sea(0, 3), 3210);
        due("28 not so many", x.sea(0, 4), -1);
        due("28 not so many", x.sea(0, MAX), -1);
        due("28 below", x.sea(0, -2), -1);
        due("28 k", x.sea(-1, -1), -1);
        due("28 k", x.sea(10, -1), -1);
        x.gate(2, 3);
        due("28 none shut", x.sea(0, -1), -1);
        due("28 none shut", x.sea(0, 0), -1);
        due("28 one shut", x.sea(1, -1), 9);
        x.gate(1, 2);
        due("28 one shut", x.sea(1, -1), 11);
        due("28 one shut", x.sea(1, 2), 0);
        due("28 two shut", x.sea(2, -1), 9);
        due("28 two shut", x.sea(2, 2), 1);
        due("28 more than there are", x.sea(9, -1), 9);
        inForce(x, "bars if from = 2 and to = 1");
        due("28 barred", x.sea(9, -1), 11);
        due("28 no springs", new EelClerk().sea(0, -1), -1);
        EelClerk y = inRow(2, 2);
        y.channel(0, 2, 4);
        y.swim(2);
        due("28 the first as a row", y.sea(0, 1), 0);
        EelClerk z = inRow(2);
        z.spring(0, 0);
        z.spring(0, 0);
        z.channel(1, 3, 2);
        z.channel(2, 3, 2);
        z.channel(0, 2, 2);
        z.swim(1);
        z.swim(3);
        due("28 the first as a row", z.sea(0, 1), 1);
        z.gate(3, 1);
        due("28 so few gates", z.sea(0, 1), 2);
        due("28 a gate all the same", z.sea(1, 1), 1);
    }

    private static void heard() {
        EelClerk x = parish();
        x.pass();
        due("29 day", x.heard(0, 1000), -1);
        due("29 day", x.heard(0, -1), -1);
        due("29 day ahead of spring", x.heard(4, -1), -1);
        due("29 no such", x.heard(4, 0), -2);
        due("29 no such", x.heard(-1, 0), -2);
        for (int i = 1; i <= 6; i++) {
            due("29 heard", x.heard(0, 999), i);
        }
        due("29 no such ahead of room", x.heard(9, 0), -2);
        due("29 no room", x.heard(0, 0), -5);
        due("29 as it was", x.count(4), 6);
        due("29 leaves what can be undone", x.count(6), 1);
    }

    private static void forget() {
        EelClerk x = parish();
        due("30 nothing", x.forget(), 0);
        x.heard(0, 1);
        x.heard(1, 1);
        x.heard(9, 9);
        due("30 twice", x.forget(), 2);
        due("30 nothing then", x.count(4), 0);
        due("30 nothing then", x.forget(), 0);
        due("30 status is older", x.status(), -2);
    }

    private static void canBe() {
        EelClerk x = parish();
        due("31 nothing heard", x.canBe(), 15);
        x.heard(1, 4);
        due("31 on a day 0 or more", x.canBe(), 7);
        x.heard(0, 0);
        due("31 all of it", x.canBe(), 1);
        x.heard(0, 0);
        due("31 twice the same", x.canBe(), 1);
        x.heard(0, 1);
        due("31 twice not the same", x.canBe(), 0);
        x.forget();
        x.heard(1, 100);
        x.gate(2, 3);
        due("31 never", x.canBe(), 7);
        inForce(x, "bars if from = 0");
        due("31 barred", x.canBe(), 6);
        due("31 dry", new EelClerk().canBe(), 0);
    }

    private static void since() {
        EelClerk x = parish();
        due("32 nothing", x.since(0), -1);
        x.heard(2, 10);
        due("32 day", x.since(0), 3);
        due("32 day", x.since(2), 10);
        due("32 no such", x.since(4), -1);
        due("32 no such", x.since(-1), -1);
        x.heard(3, 12);
        due("32 both", x.since(1), 7);
        due("32 can't be", x.since(3), -1);
        EelClerk y = parish();
        y.heard(2, 7);
        due("32 day 0", y.since(0), 0);
        y.channel(1, 2, 4);
        due("32 as all is now", y.since(0), -1);
    }

    private static void listen() {
        EelClerk x = parish();
        due("33 others", x.listen(2), -1);
        due("33 others", x.listen(-1), -1);
        due("33 nothing heard", x.listen(0), 0);
        due("33 nothing heard", x.listen(1), 1);
        EelClerk y = inRow(3, 3, 3, 3);
        y.heard(2, 100);
        due("33 the lowest", y.listen(0), 0);
        // from 0, 1, 2 it comes to 0 on 94, 100, 106, from 3, 4 on 106, 106: listening at 4 tells as much
        due("33 left", y.listen(1), 3);
        y.gate(3, 4);
        due("33 from 4 it can't be", y.canBe(), 15);
        due("33 left", y.listen(1), 2);
        EelClerk z = inRow(1);
        z.heard(0, 5);
        z.heard(0, 6);
        due("33 none", z.listen(0), -1);
        due("33 none", z.listen(1), -1);
        EelClerk w = inRow(5, 5);
        w.gate(0, 1);
        w.gate(1, 2);
        due("33 never is as one day", w.listen(1), 2);
        due("33 never is as one day", w.listen(0), 0);
        EelClerk v = inRow(1, 1);
        inForce(v, "takes 99");
        v.heard(0, 999);
        due("33 days beyond 999", v.listen(0), 2);
        due("33 days beyond 999", v.listen(1), 1);
        due("33 dry", new EelClerk().listen(0), -1);
    }

    private static void few() {
        EelClerk x = new EelClerk();
        due("34 none of none", x.few(1, 0), 1000000000000L);
        due("34 none of one", x.few(1, 1), 900000000000L);
        due("34 all", x.few(20, 3), 1000000000000L);
        due("34 fewer than 2 of 3", x.few(2, 3), 972000000000L);
        due("34 k", x.few(0, 1), -1);
        due("34 k", x.few(21, 1), -1);
        due("34 n", x.few(1, -1), -1);
        due("34 n", x.few(1, 100), -1);
        x.terms(1, 3);
        // cut each time: uncut it would be 22539340
        due("34 cut", x.few(1, 30), 22539339L);
        x.terms(1, 10);
        due("34 all slip", x.few(3, 3), 0);
        due("34 all slip", x.few(4, 3), 1000000000000L);
        x.terms(1, 0);
        due("34 none slips", x.few(1, 99), 1000000000000L);
    }

    private static void compare() {
        EelClerk x = parish();
        Checks.law(x, "takes 20 if to = 1");
        Checks.law(x, "bars if to = 2");
        x.force(1);
        due("35 none", x.compare(-1, 0, 2), 7);
        due("35 a law", x.compare(0, 0, 2), 9);
        due("35 that in force", x.compare(1, 0, 2), -1);
        due("35 that in force stays", x.soon(0, 2), -1);
        due("35 no such law", x.compare(2, 0, 2), -1);
        due("35 no such law", x.compare(-2, 0, 2), -1);
        due("35 no such spring", x.compare(0, 0, 4), -1);
        due("35 no such spring", x.compare(0, -1, 2), -1);
        due("35 itself", x.compare(1, 2, 2), 0);
        due("35 in force", x.count(13), 1);
    }

    private static void years() {
        EelClerk x = parish();
        due("36 seed", x.years(-1, 1), -1);
        due("36 seed", x.years(1000001, 1), -1);
        due("36 n", x.years(0, 0), -1);
        due("36 n", x.years(0, 61), -1);
        due("36 the highest", x.years(1000000, 60) >= 0 ? 1 : 0, 1);
        due("36 no springs", new EelClerk().years(0, 1), -3);
        due("36 a number ahead of springs", new EelClerk().years(0, 0), -1);
        // the seed 0 draws 12345, 628841, 621889, 953857: the second spring is stirred to 9
        due("36 stirred", x.years(0, 1), 0);
        due("36 stirred", x.drawn(1, 0), 9);
        due("36 on paper", x.of(1, 1), 2);
        due("36 on paper", x.count(14), 0);
        due("36 on paper", x.count(6), 0);
        x.terms(0, 999);
        due("36 at 999 nothing is drawn", x.years(0, 60), 0);
        due("36 at 999 nothing is drawn", x.drawn(1, 0), 2);
        drawnBySeeds();
        EelClerk y = inRow(50);
        inForce(y, "takes 1; bars if from = 1");
        // it swims to the other spring or not at all, and can't come back
        int swam = 0;
        for (int seed = 0; seed < 40; seed++) {
            int days = y.years(seed, 1);
            due("36 a day of swimming", days, y.drawn(1, 1));
            swam += days;
        }
        due("36 some swim", swam > 0 ? 1 : 0, 1);
    }

    /** By hand, as the document tells the draws. */
    private static void drawnBySeeds() {
        for (int seed = 0; seed < 60; seed++) {
            EelClerk x = parish();
            inForce(x, "settles mud + 1 if mud < 9 and day % 2 = 0");
            long s = seed;
            int[] draws = new int[4];
            int swum = 0;
            EelClerk y = parish();
            inForce(y, "settles mud + 1 if mud < 9 and day % 2 = 0");
            for (int i = 0; i < 20; i++) {
                for (int j = 0; j < 4; j++) {
                    s = (s * 1103 + 12345) % 1000003;
                    draws[j] = (int) (s % (j < 2 ? 4 : j == 2 ? 10 : 4));
                }
                if (draws[3] == 0) {
                    y.gate(draws[0], draws[1]);
                } else if (draws[3] == 1) {
                    y.stir(draws[0], draws[2]);
                } else if (draws[3] == 2) {
                    swum += Math.max(0, y.swim(draws[0]));
                }
                y.pass();
            }
            due("36 seed " + seed, x.years(seed, 20), swum);
            for (int k = 0; k < 4; k++) {
                due("37 seed " + seed, x.drawn(k, 0), y.of(k, 1));
                due("37 seed " + seed, x.drawn(k, 1), y.count(1) == k ? 1 : 0);
            }
        }
    }

    private static void drawn() {
        EelClerk x = parish();
        due("37 ahead of any", x.drawn(0, 1), -1);
        x.years(0, 1);
        due("37 mud", x.drawn(3, 0), 9);
        due("37 at", x.drawn(0, 1), 1);
        due("37 not at", x.drawn(1, 1), 0);
        due("37 no such", x.drawn(4, 0), -1);
        due("37 no such", x.drawn(-1, 0), -1);
        due("37 others", x.drawn(0, 2), -1);
        due("37 others", x.drawn(0, -1), -1);
        x.image(0);
        x.stir(1, 3);
        due("37 as it was drawn", x.drawn(1, 0), 9);
        x.years(-1, 1);
        due("37 refused ones leave it", x.drawn(1, 0), 9);
        x.terms(0, 999);
        x.years(5, 1);
        due("37 the latest", x.drawn(1, 0), 3);
        x.back(0);
        due("37 images do not keep it", x.drawn(1, 0), 3);
    }

    private static void image() {
        EelClerk x = new EelClerk();
        due("38 image", x.image(0), 0);
        due("38 image", x.image(1), 0);
        due("38 wrong", x.image(2), -1);
        due("38 wrong", x.image(-1), -1);
        x.spring(1, 1);
        due("38 kept anew", x.image(1), 0);
        x.spring(2, 2);
        x.back(1);
        due("38 kept anew", x.count(0), 1);
        x.back(0);
        due("38 the other one", x.count(0), 0);
        EelClerk y = parish();
        y.pass();
        y.image(0);
        due("38 leaves what can be undone", y.undo(), 3);
    }

    private static void back() {
        EelClerk x = parish();
        due("39 wrong", x.back(2), -1);
        due("39 wrong", x.back(-1), -1);
        due("39 not kept", x.back(0), -2);
        x.swim(1);
        x.gate(0, 2);
        x.stir(3, 4);
        x.pass();
        x.heard(2, 7);
        Checks.law(x, "takes 7");
        x.force(0);
        x.image(0);
        due("39 not kept", x.back(1), -2);
        spoil(x);
        due("39 back", x.back(0), 0);
        int[] counts = {4, 1, 4, 1, 1, 1, 0};
        for (int what = 0; what < counts.length; what++) {
            due("39 count " + what, x.count(what), counts[what]);
        }
        due("39 force, day", x.count(13) * 10 + x.count(14), 1);
        due("39 slips, mood", x.count(15) * 10 + x.count(16), 10);
        due("39 mud", x.of(3, 1), 4);
        due("39 the law", x.between(0, 1, 2), 7);
        due("39 heard", x.since(2), 7);
        x.forget();
        x.heard(0, 3);
        x.back(0);
        due("39 heard, where and when", x.since(2), 7);
        due("39 fault is not kept", x.fault(), 0);
        due("39 bubbles are not kept", x.bubbles(), 1);
        due("39 stopped is not kept", x.stopped(), 0);
        due("39 nothing to undo", x.undo(), -3);
        due("39 refusals are not kept", x.count(12), 1);
        due("39 the tape is not kept", x.count(7), 20);
        spoil(x);
        due("39 again", x.back(0), 0);
        due("39 images stay", x.count(0), 4);
        x.end(0);
        due("39 laws go on from there", Checks.law(x, "takes 3"), 1);
        due("39 laws go on from there", x.between(0, 1, 2), 7);
    }

    private static void spoil(EelClerk x) {
        x.end(0);
        x.channel(0, 1, 9);
        x.spring(1, 1);
        Checks.row(x, 0, 4, 4, 0);
        x.swim(2);
        x.gate(1, 2);
        x.stir(3, 1);
        x.pass();
        x.heard(0, 3);
        x.terms(1, 4);
        x.terms(2, 5);
        Checks.law(x, "takes 8");
        Checks.orders(x, "swim 9");
        x.force(1);
        x.law();
        x.feed(0, 0, 0, 0, 0);
    }

    private static void count() {
        EelClerk x = parish();
        x.swim(1);
        x.gate(1, 2);
        x.pass();
        x.heard(1, 1);
        Checks.law(x, "bars if from = 9");
        x.force(0);
        x.feed(0, 0, 0, 0, 0);
        int[] counts = {4, 1, 4, 1, 1, 1, 3, 20, 0, 0, 0, 0, 0, 0, 1, 1, 0};
        for (int what = 0; what < counts.length; what++) {
            due("40 count " + what, x.count(what), counts[what]);
        }
        due("40 others", x.count(-1), -1);
        due("40 others", x.count(17), -1);
        due("40 others", x.count(MAX), -1);
        x.spring(-1, 0);
        x.gate(0, 0);
        x.swim(8);
        x.force(1);
        x.back(0);
        x.stir(0, 1);
        for (int i = 0; i < 9; i++) {
            x.spring(0, 0);
        }
        x.end(0);
        x.row();
        x.law();
        x.orders();
        int[] refused = {2, 3, 1, 4, 3};
        for (int i = 0; i < refused.length; i++) {
            due("40 refused " + i, x.count(8 + i), refused[i]);
        }
        x.image(0);
        x.image(5);
        x.back(0);
        due("40 images do not keep that", x.count(8), 3);
        x.soon(-1, 9);
        x.feed(0, 0, 0, 0, 0);
        x.end(99);
        x.round(-1, -5);
        x.few(0, 0);
        due("40 NONE is not refused", x.count(8), 3);
    }

    private static void status() {
        EelClerk x = parish();
        due("41 not refused", x.status(), 0);
        x.spring(10, 0);
        due("41 spring", x.status(), -1);
        x.soon(9, 9);
        x.forget();
        x.end(99);
        x.bound(0, 0, 0);
        due("41 others leave it", x.status(), -1);
        x.pass();
        due("41 pass", x.status(), 0);
        x.channel(0, 9, 1);
        due("41 channel", x.status(), -2);
        x.terms(0, 5);
        due("41 terms", x.status(), 0);
        x.row();
        due("41 row", x.status(), -6);
        x.gate(0, 1);
        due("41 gate", x.status(), 0);
        x.law();
        due("41 law", x.status(), -6);
        x.stir(0, 0);
        due("41 stir", x.status(), 0);
        x.orders();
        due("41 orders", x.status(), -6);
        x.undo();
        due("41 undo", x.status(), 0);
        x.force(3);
        due("41 force", x.status(), -2);
        x.swim(2);
        due("41 swim", x.status(), 0);
        x.heard(0, -1);
        due("41 heard", x.status(), -1);
        x.image(0);
        due("41 image", x.status(), 0);
        x.back(1);
        due("41 back", x.status(), -2);
        x.years(1, 1);
        due("41 years", x.status(), 0);
        x.swim(2);
        due("41 swim", x.status(), -3);
        x.heard(0, 1);
        due("41 heard", x.status(), 0);
        x.years(0, 0);
        due("41 years", x.status(), -1);
        x.back(0);
        due("41 back", x.status(), 0);
        Checks.orders(x, "swim 9");
        due("41 orders", x.status(), -3);
        Checks.law(x, "bars");
        due("41 law", x.status(), 0);
        x.undo();
        due("41 undo", x.status(), -3);
        x.force(0);
        due("41 force", x.status(), 0);
        x.image(2);
        due("41 image", x.status(), -1);
        Checks.row(x, 1);
        due("41 row", x.status(), 0);
        x.gate(3, 3);
        due("41 gate", x.status(), -1);
        Checks.orders(x, "pass");
        due("41 orders", x.status(), 0);
    }
}
