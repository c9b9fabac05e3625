/** The two languages: where a fault is, the limits, what is broken, what is asked. */
public final class TextsTest {
    private static final Checks C = new Checks();

    public static void main(String[] args) {
        lawFaults();
        orderFaults();
        limits();
        broken();
        asked();
        binding();
        orderWords();
        C.close("TextsTest");
    }

    private static void law(String text, int fault) {
        C.due("fault of law " + text, Readings.lawFault(text), fault);
    }

    private static void orders(String text, int fault) {
        C.due("fault of orders " + text, Readings.ordersFault(text), fault);
    }

    private static void lawFaults() {
        law("", 0);
        law("  ", 2);
        law("bars", -1);
        law("  bars  ", -1);
        law("bars bars", 5);
        law("barsif 1<2", 0);
        law("bars if1<2", -1);
        law("bars if", 7);
        law("takes1", -1);
        law("takes 1 2", 8);
        law("takes from+to-far*fall/mud%day+mood", -1);
        law("takes at", 6);
        law("takes x", 6);
        law("takes Far", 6);
        law("takes dayz", 6);
        law("takes daya", 6);
        law("takes day`", 9);
        law("takes day{", 9);
        law("takes 10/", 9);
        law("takes 10:", 8);
        law("takes 109", -1);
        law("takes -1", 6);
        law("takes [1", 8);
        law("takes [1)", 8);
        law("takes [1]]", 9);
        law("takes []", 7);
        law("takes 1000", -1);
        law("takes 1001", 6);
        law("takes 00000000000000001000", -1);
        law("takes 4294967297", 6);
        law("takes 99999999999999999999", 6);
        law("takes 1;", 8);
        law("takes 1; ", 9);
        law("takes 1;;bars", 8);
        law(";bars", 0);
        law("takes 1 times 2", 8);
        law("weighs mud;settles mud;takes mud;bars", -1);
        law("bars if (1<2", 12);
        law("bars if (1<2)", -1);
        law("bars if (1)<2", 10);
        law("bars if [1]<2", -1);
        law("bars if [1<2]", 10);
        law("bars if 1<2<3", 11);
        law("bars if 1<2 and", 15);
        law("bars if 1<2 and or", 16);
        law("bars if 1<2 or not 3>2 and not not (4=4 or 5=5)", -1);
        law("bars if not", 11);
        law("bars if 1 not <2", 10);
        law("bars if 1<=2", 10);
        law("bars if 1", 9);
        law("bars if 1<2 if 1<2", 12);
        law("bars\tif 1<2", 4);
        law("bars\u00e9", 4);
        law("bars\u0000", 4);
        law("takes mud 3", 10);
        law("takes to to", 9);
    }

    private static void orderFaults() {
        orders("pass", -1);
        orders("pass 1", 5);
        orders("swim", 4);
        orders("swim 1 to 2", 7);
        orders("gate 1", 6);
        orders("gate 1 2", 7);
        orders("gate 1 to", 9);
        orders("gate1to2", -1);
        orders("stir at to mud 8", -1);
        orders("stir at to mud 9", 15);
        orders("swim soon 8+soon 0", -1);
        orders("swim soon", 9);
        orders("swim soon at", 10);
        orders("swim soon [1]", 10);
        orders("swim mud 08", -1);
        orders("swim mud 4294967296", 9);
        orders("swim from", 5);
        orders("pass times", 10);
        orders("pass times 0", 11);
        orders("pass times 1", -1);
        orders("pass times 20", -1);
        orders("pass times 21", 11);
        orders("pass times day", 11);
        orders("pass times 1+1", 12);
        orders("pass times 2 times 2", 13);
        orders("pass times 2 if day<9", -1);
        orders("pass if day<9 times 2", 14);
        orders("pass if latest=at and done<shut", -1);
        orders("takes 1", 0);
        orders("pass;swim 1;bars", 12);
        orders("swim times", 5);
    }

    private static String many(String first, String more, int count) {
        return first + more.repeat(count);
    }

    private static void limits() {
        law(many("bars", ";bars", 11), -1);
        law(many("bars", ";bars", 12), 60);
        law(many("bars", ";bars", 11) + ";", 60);
        law(many("bars", ";bars", 11) + "; 7", 61);
        orders(many("pass", ";pass", 11), -1);
        orders(many("pass", ";pass", 12), 60);
        law(many("takes 1", "+1", 49), -1);
        law(many("takes 1", "+1", 50), 106);
        law(many("takes mud", "+mud", 49), -1);
        law(many("takes mud", "*day", 50), 206);
        law(many("takes 1", "+1", 24) + ";" + many("takes 1", "+1", 24), -1);
        law(many("takes 1", "+1", 24) + ";" + many("takes 1", "+1", 24) + " if 1<2", 115);
        law(many("takes 1", "+1", 49) + " if", 108);
        orders(many("swim mud 1", "+mud 1", 49), -1);
        orders(many("swim mud 1", "+mud 1", 50), 305);
        orders(many("swim 1", "+1", 48) + ";pass times 3;pass times 3;swim 2", -1);
        orders(many("swim 1", "+1", 48) + ";pass times 3;pass times 3;swim 2+2", 136);
        law("takes " + "[".repeat(8) + "1" + "]".repeat(8), -1);
        law("takes " + "[".repeat(9) + "1" + "]".repeat(9), 14);
        law("bars if " + "(".repeat(8) + "1<2" + ")".repeat(8), -1);
        law("bars if " + "(".repeat(9) + "1<2" + ")".repeat(9), 16);
        law("bars if " + "(".repeat(4) + "[".repeat(4) + "1" + "]".repeat(4) + "<2" + ")".repeat(4), -1);
        law("bars if " + "(".repeat(4) + "[".repeat(5) + "1" + "]".repeat(5) + "<2" + ")".repeat(4), 16);
        law("takes [[[[[[[[1]]]]]]]]+[[[[[[[[2]]]]]]]] if ((((((([3]<[4])))))))", -1);
        law(many("bars if ", "not ", 97) + "1<2", -1);
    }

    private static int sum(String sum) {
        return Readings.sum(sum);
    }

    private static int test(String test) {
        return Readings.test(test);
    }

    private static void broken() {
        C.due("a million times a thousand", sum("1000*1000*1000/1000/1000/50"), 20);
        C.due("one more", sum("[1000*1000*1000+1]/1000/1000/50"), EelClerk.NONE);
        C.due("one more, less", sum("1000*1000*1000+1-1000"), EelClerk.NONE);
        C.due("as far below", sum("[0-1000*1000*1000]+1000*1000*1000+4"), 4);
        C.due("one less", sum("0-1000*1000*1000-1+1000*1000*1000"), EelClerk.NONE);
        C.due("a trillion", sum("[1000*1000*1000]*[1000*1000*1000]"), EelClerk.NONE);
        C.due("by 0", sum("5/0"), EelClerk.NONE);
        C.due("left by 0", sum("5%0"), EelClerk.NONE);
        C.due("0 by 0", sum("0*[5/[3-3]]"), EelClerk.NONE);
        C.due("cut towards 0", sum("[0-7]/2+10"), 7);
        C.due("cut towards 0", sum("7/[0-2]+10"), 7);
        C.due("left", sum("[0-7]%3+10"), 9);
        C.due("left", sum("7%[0-3]+10"), 11);
        C.due("a test", test("1/0 = 1"), EelClerk.NONE);
        C.due("a test", test("1 = 1%0"), EelClerk.NONE);
        C.due("a number just there", test("1000*1000*1000 > 0-1000*1000*1000"), 1);
        C.due("nearest", sum("0-5"), 0);
    }

    private static void asked() {
        C.due("or, not asked", test("1=1 or 1/0=1"), 1);
        C.due("or, asked", test("1=2 or 1/0=1"), EelClerk.NONE);
        C.due("or, ahead", test("1/0=1 or 1=1"), EelClerk.NONE);
        C.due("and, not asked", test("1=2 and 1/0=1"), 0);
        C.due("and, asked", test("1=1 and 1/0=1"), EelClerk.NONE);
        C.due("and, ahead", test("1/0=1 and 1=2"), EelClerk.NONE);
        C.due("the third", test("1=2 or 1=1 or 1/0=1"), 1);
        C.due("the third", test("1=1 and 1=2 and 1/0=1"), 0);
        C.due("behind a both that is not so", test("1=2 and 1/0=1 or 2=2"), 1);
        C.due("behind a both that is not so", test("1=2 and 1/0=1 or 2=3"), 0);
        C.due("within", test("(1=1 or 1/0=1) and 2=2"), 1);
        C.due("within", test("(1/0=1 or 1=1) or 2=2"), EelClerk.NONE);
        C.due("not", test("not 1/0=1 or 1=1"), EelClerk.NONE);
        C.due("not, not asked", test("not 1=2 or 1/0=1"), 1);
    }

    private static void binding() {
        C.due("from the left", sum("20-5-3"), 12);
        C.due("from the left", sum("80/4/2"), 10);
        C.due("from the left", sum("17%10*3"), 21);
        C.due("times ahead", sum("2+3*4"), 14);
        C.due("brackets", sum("[2+3]*4"), 20);
        C.due("and ahead", test("1=1 or 1=1 and 1=2"), 1);
        C.due("brackets", test("(1=1 or 1=1) and 1=2"), 0);
        C.due("not ahead", test("not 1=2 and 1=2"), 0);
        C.due("not brackets", test("not (1=2 and 1=2)"), 1);
        C.due("not not", test("not not 1=1"), 1);
        C.due("less", test("2<2"), 0);
        C.due("less", test("1<2"), 1);
        C.due("more", test("2>2"), 0);
        C.due("more", test("3>2"), 1);
        C.due("from", sum("from+10"), 10);
        C.due("to", sum("to+10"), 11);
        C.due("far", sum("far"), 6);
        C.due("fall", sum("fall"), 5);
        C.due("mud", sum("mud"), 5);
        C.due("day", sum("day"), 40);
        C.due("mood", sum("mood"), 8);
    }

    private static int stirred(EelClerk x, String sum) {
        C.due("stir 8 to " + sum, Checks.orders(x, "stir 8 to " + sum + " if not mud 8 = " + sum) >= 0 ? 1 : 0, 1);
        return x.of(8, 1);
    }

    private static void orderWords() {
        EelClerk x = new EelClerk();
        for (int i = 0; i < 9; i++) {
            x.spring(i, i);
        }
        x.channel(0, 1, 5);
        x.channel(1, 2, 2);
        x.terms(0, 7);
        C.due("day", stirred(x, "day"), 7);
        C.due("done", stirred(x, "done"), 0);
        C.due("latest", stirred(x, "latest+5"), 4);
        C.due("at", stirred(x, "at"), 0);
        C.due("soon", stirred(x, "soon 2"), 7);
        C.due("never", stirred(x, "soon 3+3"), 2);
        C.due("mud", stirred(x, "mud 5"), 5);
        C.due("swim", Checks.orders(x, "swim 1; gate 0 to 1; stir 3 to latest; swim 2 times 1; stir 4 to latest; stir 6 to done"), 6);
        C.due("latest", x.of(3, 1), 5);
        C.due("the latest", x.of(4, 1), 2);
        C.due("done", x.of(6, 1), 5);
        C.due("at", stirred(x, "at"), 2);
        C.due("shut", stirred(x, "shut"), 1);
        C.due("latest is of this text", stirred(x, "latest+1"), 0);
        C.due("asked each time", Checks.orders(x, "pass times 9 if day < 10"), 3);
        C.due("sums each time", Checks.orders(x, "stir done to 9 times 5 if done < 9"), 5);
        C.due("sums each time", x.of(4, 1), 9);
    }
}
