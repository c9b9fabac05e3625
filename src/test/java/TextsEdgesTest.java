import java.io.IOException;

/** The edges that the words II name of the two languages, sentence by sentence. */
public final class TextsEdgesTest {
    private static final String EDGES = "\\.\\.|at most|at first|FAULT|NONE|-\\d|Beyond|divided|nearest|last\\b|alone|without"
            + "|none|latest|cut\\b|blanks|once|as it was|aside|BROKEN|HOLDS|\\d+(?:st|th)|longest|single|1,0";
    private static Edges e;

    public static void main(String[] args) throws IOException {
        e = new Edges();
        tape();
        letters();
        digits();
        signs();
        blanks();
        clauses();
        tests();
        sums();
        numbers();
        words();
        parts();
        brackets();
        faults();
        beyond();
        divided();
        asked();
        brokenParts();
        laws();
        ofChannels();
        ofSprings();
        holds();
        takes();
        weighs();
        settles();
        bars();
        orders();
        times();
        which();
        ifs();
        orderWords();
        noSpring();
        cannotBe();
        e.allTold("II", EDGES);
        e.close("TextsEdgesTest");
    }

    private static void due(String call, long got, long want) {
        e.due(call, got, want);
    }

    private static void law(String text, int fault) {
        due("fault of law " + text, Readings.lawFault(text), fault);
    }

    private static void order(String text, int fault) {
        due("fault of orders " + text, Readings.ordersFault(text), fault);
    }

    private static void so(String test, int told) {
        due(test, Readings.test(test), told);
    }

    private static void so(String test) {
        so(test, 1);
    }

    private static void broken(String test) {
        so(test, EelClerk.NONE);
    }

    private static void tape() {
        e.words("II", "TEXTS are on a TAPE of at most 400 bytes.");
        String blanks = " ".repeat(394);
        law(blanks + "  bars", -1);
        law(blanks + "bars;;", 399);
        law("bars" + blanks + " ;", 400);
        order("pass" + blanks + " x", 399);
        EelClerk x = new EelClerk();
        Checks.feed(x, blanks + "  bars");
        due("400 bytes", x.count(7), 400);
        due("20 more", x.feed(0, 0, 0, 0, 0), -1);
        due("a law all the same", x.law(), 0);
        EelClerk y = Parishes.parish();
        for (int i = 0; i < 8; i++) {
            due("one long text behind the other", Checks.orders(y, many("pass if 1=1", " and 1=1", 23)), 1);
            due("and one that does not stand", Checks.orders(y, many("pass if 1=1", " and 1=1", 23) + ";"), -6);
        }
    }

    private static void letters() {
        e.words("II", "TOKENS: longest rows of letters a .. z");
        law("barsz", 0);
        law("cars", 0);
        law("aars", 0);
        law("barr", 0);
        law("bbrs", 0);
        law("abars", 0);
        law("bar", 0);
        law("barsif 1=2", 0);
        law("bars ifnot 1=2", 5);
        law("takes fart", 6);
        law("takes dayday", 6);
        law("bars`", 4);
        law("bars{", 4);
        law("barsA", 4);
        law("barsZ", 4);
        law("Bars", 0);
        law("barS", 0);
        order("passtimes 2", 0);
        order("swim mud1", -1);
        order("swim at2", 7);
    }

    private static void digits() {
        e.words("II", "of digits, single other bytes");
        law("takes 10001", 6);
        law("takes 12 3", 9);
        law("takes 1:", 7);
        law("takes 1/", 8);
        law("takes 1/2", -1);
        due("0 and 9 are digits", Readings.sum("90"), 90);
        due("one row", Readings.sum("10+1"), 11);
        law("takes1if1=2", -1);
        order("gate1to2times3if4=4", -1);
    }

    private static void signs() {
        e.words("II", "single other bytes");
        law("bars if 1<=2", 10);
        law("bars if 1<>2", 10);
        law("bars if 1==2", 10);
        law("takes 1++1", 8);
        law("takes 1;;bars", 8);
        law("takes [[1]]", -1);
        law("bars if ((1=1))", -1);
        law("takes far\u00e9", 9);
        law("takes far\u00ff", 9);
        law("takes far\u0080", 9);
        law("takes far\u007f", 9);
        law("takes far\u0000", 9);
    }

    private static void blanks() {
        e.words("II", "any blanks (32) between");
        law("bars", -1);
        law("   bars   if   1   =   2   ", -1);
        law("bars if 1=2", -1);
        law("bars if1=2", -1);
        law("ba rs", 0);
        law("takes 1 0", 8);
        law("takes\t1", 5);
        law("takes\n1", 5);
        law("takes\u001f1", 5);
        law("takes!1", 5);
        law("takes\u00a01", 5);
        law("\tbars", 0);
        law("bars\r", 4);
    }

    private static String many(String first, String more, int count) {
        return first + more.repeat(count);
    }

    private static void clauses() {
        e.words("II", "CLAUSE {\";\" CLAUSE}, 12 at most (FAULT at the 13th's first TOKEN)");
        law(many("bars", ";bars", 11), -1);
        law(many("bars", ";bars", 12), 60);
        law(many("bars", ";  bars", 12), 4 + 11 * 7 + 3);
        law(many("bars", ";bars", 11) + ";", 60);
        law(many("bars", ";bars", 11) + "; ", 61);
        law(many("bars", ";bars", 11) + ";;", 60);
        law(many("bars", ";bars", 11) + "bars", 55);
        law(many("bars", ";bars", 11) + ";nothing", 60);
        law(many("bars", ";bars", 12) + " bars", 60);
        order(many("pass", ";pass", 11), -1);
        order(many("pass", ";pass", 12), 60);
        order(many("pass", ";pass", 11) + ";", 60);
        law("bars;", 5);
        law(";bars", 0);
        law(";", 0);
        order(";", 0);
        EelClerk x = new EelClerk();
        due("all twelve are run", Checks.orders(x, many("pass", ";pass", 11)), 12);
        twelve();
    }

    /** The last that holds at a mood is the clause of that number, but for 10 and 11 at moods 0 and 1. */
    private static void twelve() {
        StringBuilder text = new StringBuilder("takes 10 if mood=0");
        for (int i = 1; i < 12; i++) {
            text.append(";takes ").append(10 + 3 * i).append(" if mood=").append(i % 10);
        }
        EelClerk x = Parishes.parish();
        Parishes.inForce(x, text.toString());
        for (int mood = 0; mood < 10; mood++) {
            x.terms(2, mood);
            due("each of twelve holds in its turn: " + mood, x.between(0, 1, 2), 10 + 3 * (mood < 2 ? mood + 10 : mood));
        }
    }

    private static void tests() {
        e.words("II", "TEST: BOTH {\"or\" BOTH}. BOTH: PLAIN {\"and\" PLAIN}. PLAIN: \"not\" PLAIN | \"(\" TEST \")\" | "
                + "SUM (\"<\" | \">\" | \"=\") SUM.");
        so("1<2");
        so("2<2", 0);
        so("2>1");
        so("2>2", 0);
        so("2=2");
        so("2=1", 0);
        so("1=1 or 1=1 and 1=2");
        so("(1=1 or 1=1) and 1=2", 0);
        so("not 1=2 and 1=2", 0);
        so("not not not 1=2");
        law("bars if 1", 9);
        law("bars if (1)", 10);
        law("bars if ()", 9);
        law("bars if not", 11);
        law("bars if 1<2<3", 11);
        law("bars if 1<2 or", 14);
        law("bars if 1<2 and", 15);
        law("bars if 1<2 or;bars", 14);
        law("bars if 1<2 and;bars", 15);
        law("bars if 1<2 and or 1<2", 16);
        law("bars if 1<", 10);
        law("bars if 1>;bars", 10);
        law("bars if <1", 8);
        law("bars if or 1<2", 8);
        law("bars if (1<2", 12);
        law("bars if 1<2)", 11);
        law("bars if [1<2]", 10);
        law("bars if (1<2)=1", 13);
        law("bars if 1 not <2", 10);
    }

    private static void sums() {
        e.words("II", "SUM: TERM {(\"+\" | \"-\") TERM}. TERM: PART {(\"*\" | \"/\" | \"%\") PART}.");
        due("from the left", Readings.sum("20-5-3"), 12);
        due("from the left", Readings.sum("80/4/2"), 10);
        due("from the left", Readings.sum("17%10*3"), 21);
        due("terms ahead", Readings.sum("2+3*4-6/3"), 12);
        due("brackets", Readings.sum("[2+3]*4"), 20);
        law("takes", 5);
        law("takes +1", 6);
        law("takes -1", 6);
        law("takes 1+", 8);
        law("takes 1*", 8);
        law("takes 1-*2", 8);
        law("takes (1)", 6);
        law("takes []", 7);
        law("takes [1", 8);
        law("takes [1)", 8);
        law("takes 1]", 7);
    }

    private static void numbers() {
        e.words("II", "PART: NUMBER (to 1,000) | \"[\" SUM \"]\" | a word, as told.");
        law("takes 0", -1);
        law("takes 1000", -1);
        law("takes 1001", 6);
        law("takes 0000000000000000000000000001000", -1);
        law("takes 0000000000000000000000000001001", 6);
        law("takes 9999999999999999999999999999999", 6);
        law("takes 2147483648", 6);
        law("takes 4294967296", 6);
        law("takes 4294967297", 6);
        law("takes 18446744073709551616", 6);
        law("takes 18446744073709551617", 6);
        law("bars if 1=1001", 10);
        order("swim 1000", -1);
        order("swim 1001", 5);
        due("as many as it tells", Readings.sum("1000-905"), 95);
        due("ahead of it noughts", Readings.sum("0042"), 42);
    }

    private static void words() {
        String[] ofLaws = {"from", "to", "far", "fall", "mud", "day", "mood"};
        String[] ofOrders = {"day", "done", "latest", "at", "shut", "mud 0", "soon 0"};
        e.words("II", "Words: \"from\" | \"to\" | \"far\" | \"fall\" | \"mud\" | \"day\" | \"mood\".");
        for (String word : ofLaws) {
            law("takes " + word, -1);
        }
        for (String word : new String[] {"done", "latest", "at", "shut", "soon 0", "takes", "if", "not", "times"}) {
            law("takes " + word, 6);
        }
        law("takes mud 0", 10);
        e.words("II", "Words: \"day\" | \"done\" | \"latest\" | \"at\" | \"shut\" | \"mud\" S | \"soon\" S");
        for (String word : ofOrders) {
            order("swim " + word, -1);
        }
        for (String word : new String[] {"from", "to", "far", "fall", "mood", "swim", "if", "not", "times"}) {
            order("swim " + word, 5);
        }
    }

    private static void parts() {
        e.words("II", "50 PARTS that are NUMBERS and words (FAULT at the 51st)");
        law(many("takes 1", "+1", 49), -1);
        law(many("takes 1", "+1", 50), 106);
        law(many("takes far", "+far", 49), -1);
        law(many("takes far", "+far", 50), 206);
        law(many("takes far", "+ 7", 50), 158);
        law(many("takes [1]", "+[1]", 49), -1);
        law(many("takes [1]", "+[1]", 50), 207);
        law(many("takes 1", "+1", 24) + ";" + many("takes 1", "+1", 24), -1);
        law(many("takes 1", "+1", 24) + ";" + many("takes 1", "+1", 24) + ";bars", -1);
        law(many("takes 1", "+1", 24) + ";" + many("takes 1", "+1", 24) + ";takes 1", 118);
        law(many("takes 1", "+1", 47) + " if 1=1", -1);
        law(many("takes 1", "+1", 48) + " if 1=1", 109);
        law(many("takes 1", "+1", 49) + " if 1=1", 109);
        law(many("takes 1", "+1", 49) + "+", 106);
        law(many("takes 1", "+1", 49) + "+]", 106);
        order(many("swim at", "+at", 49), -1);
        order(many("swim at", "+at", 50), 155);
        order(many("swim mud 1", "+mud 1", 49), -1);
        order(many("swim mud 1", "+mud 1", 50), 305);
        order(many("swim soon 1", "+soon 9", 50), 17);
        so(many("1", "+1", 48) + " = 49");
    }

    private static void brackets() {
        e.words("II", "8 brackets of both kinds within one another (FAULT at the 9th) at most");
        law("takes " + "[".repeat(8) + "1" + "]".repeat(8), -1);
        law("takes " + "[".repeat(9) + "1" + "]".repeat(9), 14);
        law("bars if " + "(".repeat(8) + "1=1" + ")".repeat(8), -1);
        law("bars if " + "(".repeat(9) + "1=1" + ")".repeat(9), 16);
        law("bars if " + "(".repeat(7) + "[1]=1" + ")".repeat(7), -1);
        law("bars if " + "(".repeat(8) + "[1]=1" + ")".repeat(8), 16);
        law("bars if " + "(".repeat(1) + "[".repeat(8) + "1" + "]".repeat(8) + "=1)", 16);
        law("bars if " + "(".repeat(8) + "1=[1]" + ")".repeat(8), 18);
        law("takes " + "[1]+".repeat(20) + "[1]", -1);
        law("takes [[[[[[[[1]]]]]]]]+[[[[[[[[1]]]]]]]]", -1);
        law("takes [[[[[[[[1]]]]]]]]+[[[[[[[[[1]]]]]]]]]", 32);
        law("bars if ((((((((1=1)))))))) and ((((((((1=1))))))))", -1);
        law("takes [[[[[[[[1]]]]]]]]; takes [[[[[[[[1]]]]]]]]", -1);
        law("takes " + "[".repeat(9), 14);
        order("swim " + "[".repeat(8) + "1" + "]".repeat(8), -1);
        order("swim " + "[".repeat(9) + "1" + "]".repeat(9), 13);
        due("eight", Readings.sum("[[[[[[[[7]]]]]]]]"), 7);
    }

    private static void faults() {
        e.words("II", "FAULT: the first TOKEN that can't go on there (the end's: the TEXT's length).");
        law("", 0);
        law("   ", 3);
        law("takes", 5);
        law("takes   ", 8);
        law("takes 1 +", 9);
        law("takes 1 +   ", 12);
        law("x", 0);
        law("   x", 3);
        law("bars  bars", 6);
        law("bars if 1=2 takes", 12);
        law("takes 1001;;x", 6);
        law("pass", 0);
        order("bars", 0);
        order("gate 1", 6);
        order("gate 1 2", 7);
        order("gate 1 to", 9);
        order("pass 1", 5);
        order("swim 1 to 2", 7);
        order("pass if 1=1 times 2", 12);
    }

    private static void beyond() {
        e.words("II", "Beyond 1,000,000,000 either way");
        so("1000*1000*1000 = 1000*1000*1000");
        broken("1000*1000*1000+1 > 0");
        so("1000*1000*1000+0 > 0");
        broken("1000*1000*1000+1-1 > 0");
        so("1000*1000*1000-1+1 > 0");
        so("0-1000*1000*1000 < 0");
        broken("0-1000*1000*1000-1 < 0");
        broken("0-1000*1000*1000-1+1 < 0");
        so("[0-1000*1000]*1000 < 0");
        broken("[0-1000*1000-1]*1000 < 0");
        broken("[1000*1000+1]*1000 > 0");
        broken("[1000*1000*1000]*[1000*1000*1000] > 0");
        broken("[1000*1000*1000]*[0-1000*1000*1000] < 0");
        broken("1 < 1000*1000*1000*1000/1000/1000");
        broken("0*[1000*1000*1000+1] = 0");
        so("1000*1000*1000/1000/1000 = 1000");
        broken("1000*1000*1000+1000*1000*1000 > 0");
    }

    private static void divided() {
        e.words("II", "or divided by 0 (/ cut towards 0, % what is left then)");
        broken("1/0 = 0");
        broken("1%0 = 0");
        broken("0/0 = 0");
        broken("0%0 = 0");
        broken("1/[far-far] = 0");
        broken("0*[1/0] = 0");
        so("0/1 = 0");
        so("0%1 = 0");
        so("7/2 = 3");
        so("[0-7]/2 = 0-3");
        so("7/[0-2] = 0-3");
        so("[0-7]/[0-2] = 3");
        so("[0-1]/2 = 0");
        so("7%2 = 1");
        so("[0-7]%2 = 0-1");
        so("7%[0-2] = 1");
        so("[0-7]%[0-2] = 0-1");
        so("[0-1000*1000*1000]/[0-1] = 1000*1000*1000");
    }

    private static void asked() {
        e.words("II", "(\"or\", \"and\" ask what stands behind only if it can still matter");
        so("1=1 or 1/0=1");
        broken("1=2 or 1/0=1");
        so("1=2 and 1/0=1", 0);
        broken("1=1 and 1/0=1");
        so("1=2 or 1=1 or 1/0=1");
        so("1=1 and 1=2 and 1/0=1", 0);
        broken("1=1 and 1=1 and 1/0=1");
        so("1=2 and 1/0=1 or 1=1");
        so("1=2 and 1/0=1 or 1=2", 0);
        so("1=1 or 1=1 and 1/0=1");
        broken("1=2 or 1=1 and 1/0=1");
        so("not (1=1 or 1/0=1)", 0);
        so("not (1=2 and 1/0=1)");
        broken("not 1=1 or 1/0=1");
    }

    private static void brokenParts() {
        e.words("II", "a part that was asked and is BROKEN makes all of it BROKEN).");
        broken("1/0=1 or 1=1");
        broken("1/0=1 and 1=2");
        broken("(1/0=1 or 1=1) or 1=1");
        broken("1=1 and (1/0=1 or 1=1)");
        broken("not 1/0=1");
        broken("not not 1/0=1");
        broken("1 < 1/0");
        broken("1/0 = 1/0");
        broken("[1+[2*[3%0]]] = 1");
        e.words("II", "a SUM, a TEST is BROKEN");
        due("a sum", Readings.sum("1/0"), EelClerk.NONE);
        broken("1/0=1");
    }

    private static void laws() {
        e.words("II", "LAWS, 6 at most; one is in FORCE (NONE at first: no CLAUSE)");
        EelClerk x = Parishes.parish();
        due("at first", x.count(13), -1);
        for (int i = 0; i < 6; i++) {
            due("law " + i, Checks.law(x, "takes " + (10 + i)), i);
            due("none is in force", x.count(13), -1);
        }
        due("no clause: takes", x.between(0, 1, 2), 4);
        due("no clause: weighs", x.between(0, 1, 3), 1);
        due("no clause: bars", x.between(0, 1, 4), 0);
        due("no clause: settles", x.of(3, 2), 9);
        due("a seventh", Checks.law(x, "takes 16"), -5);
        due("six", x.count(5), 6);
        x.force(5);
        due("the sixth in force", x.between(0, 1, 2), 15);
        x.force(0);
        due("the first in force", x.between(0, 1, 2), 10);
    }

    private static EelClerk ends() {
        EelClerk x = new EelClerk();
        x.spring(0, 9);
        x.spring(9, 0);
        x.channel(0, 1, 50);
        return x;
    }

    /** What a law weighs a cut from one to the other. */
    private static int weight(EelClerk x, String sum, int one, int other) {
        Checks.law(x, "weighs " + sum);
        int was = x.force(x.count(5) - 1);
        int told = x.between(one, other, 3);
        x.force(was);
        return told;
    }

    private static void ofChannels() {
        e.words("II", "(far: FAR; fall: LEVEL of the one less that of the other one; mud: of the other one as it is then)");
        EelClerk x = ends();
        due("far", weight(x, "far", 0, 1), 50);
        due("fall from 9 to 0", weight(x, "fall", 1, 0), 9);
        due("fall from 0 to 9", weight(x, "fall+10", 0, 1), 1);
        due("mud of the other one", weight(x, "mud*10", 1, 0), 90);
        due("mud of the other one", weight(x, "mud*10", 0, 1), 0);
        x.stir(1, 4);
        due("as it is then", weight(x, "mud*10", 0, 1), 40);
        EelClerk y = ends();
        e.words("II", "are asked of a CHANNEL from a SPRING to another one");
        due("from", weight(y, "from*10+to", 0, 1), 1);
        due("to", weight(y, "from*10+to", 1, 0), 10);
        e.words("II", "day: DAY as it is then");
        due("day 0", weight(y, "day", 0, 1), 0);
        y.terms(0, 999);
        due("day 999", weight(y, "day-950", 0, 1), 49);
        y.terms(0, 7);
        y.terms(2, 9);
        due("day 7, mood 9", weight(y, "day*10+mood", 0, 1), 79);
    }

    private static void ofSprings() {
        e.words("II", "\"settles\" of a SPRING (from: it; to, far -1, fall 0; mud: of it)");
        EelClerk x = ends();
        Parishes.inForce(x, "settles from+7");
        due("from", x.of(0, 2) * 10 + x.of(1, 2), 78);
        Parishes.inForce(x, "settles to+1+[far+1]*5+fall*5");
        due("to, far, fall", x.of(0, 2) * 10 + x.of(1, 2), 0);
        Parishes.inForce(x, "takes 5; settles 4 if to = 0-1 and far = 0-1 and fall = 0");
        x.between(0, 1, 2);
        due("to, far, fall, behind a channel", x.of(0, 2) * 10 + x.of(1, 2), 44);
        Parishes.inForce(x, "settles mud");
        due("mud", x.of(0, 2) * 10 + x.of(1, 2), 90);
        x.terms(0, 3);
        x.terms(2, 4);
        Parishes.inForce(x, "settles day+mood");
        due("day, mood", x.of(1, 2), 7);
    }

    private static int takes(String law) {
        EelClerk x = ends();
        Parishes.inForce(x, law);
        return x.between(0, 1, 2);
    }

    private static void holds() {
        e.words("II", "A CLAUSE HOLDS, if its \"if\" (if it has one) is so, and neither that nor its SUM is BROKEN.");
        due("no if", takes("takes 6"), 6);
        due("it is so", takes("takes 6 if 1=1"), 6);
        due("it is not so", takes("takes 6 if 1=2"), 50);
        due("it is broken", takes("takes 6 if 1/0=1"), 50);
        due("the sum is broken", takes("takes 1/0"), 50);
        due("the sum is broken, its if is so", takes("takes 1/0 if 1=1"), 50);
        due("the sum is broken, its if is not so", takes("takes 5; takes 1/0 if 1=2"), 5);
        due("the last is broken", takes("takes 5; takes 1/0"), 5);
        due("the last's if is broken", takes("takes 5; takes 6 if 1%0=1"), 5);
        due("the last is beyond", takes("takes 5; takes 1000*1000*1000+1"), 5);
    }

    private static void takes() {
        e.words("II", "A word TAKES 1 .. 99 DAYS as the last \"takes\" that HOLDS tells (else the nearest), as many as it is FAR "
                + "without");
        due("the last", takes("takes 5; takes 6; weighs 7"), 6);
        due("the last that holds", takes("takes 5; takes 6; takes 7 if 1=2"), 6);
        due("0", takes("takes 0"), 1);
        due("1", takes("takes 1"), 1);
        due("2", takes("takes 2"), 2);
        due("-1", takes("takes 0-1"), 1);
        due("98", takes("takes 98"), 98);
        due("99", takes("takes 99"), 99);
        due("100", takes("takes 100"), 99);
        due("the most", takes("takes 1000*1000*1000"), 99);
        due("the least", takes("takes 0-1000*1000*1000"), 1);
        due("without", takes("weighs 7"), 50);
        EelClerk x = ends();
        x.channel(0, 1, 1);
        due("without, the nearest two", x.between(0, 1, 2), 1);
    }

    private static int weighs(String law) {
        EelClerk x = ends();
        Parishes.inForce(x, law);
        return x.between(0, 1, 3);
    }

    private static void weighs() {
        e.words("II", "a cut WEIGHS 0 .. 99, 1 without");
        due("0", weighs("weighs 0"), 0);
        due("-1", weighs("weighs 0-1"), 0);
        due("1", weighs("weighs 1"), 1);
        due("99", weighs("weighs 99"), 99);
        due("100", weighs("weighs 100"), 99);
        due("the most", weighs("weighs 1000*1000*1000"), 99);
        due("the least", weighs("weighs 0-1000*1000*1000"), 0);
        due("without", weighs("takes 7; bars; settles 5"), 1);
        due("broken", weighs("weighs 1/0"), 1);
        due("the last", weighs("weighs 3; weighs 4"), 4);
    }

    private static int settles(String law) {
        EelClerk x = ends();
        Parishes.inForce(x, law);
        x.pass();
        return x.of(0, 1) * 10 + x.of(1, 1);
    }

    private static void settles() {
        e.words("II", "MUD SETTLES to 0 .. 9, to what there is without");
        due("0", settles("settles 0"), 0);
        due("-1", settles("settles 0-1"), 0);
        due("9", settles("settles 9"), 99);
        due("10", settles("settles 10"), 99);
        due("the most", settles("settles 1000*1000*1000"), 99);
        due("the least", settles("settles 0-1000*1000*1000"), 0);
        due("beyond: 9 and one more, 0 and one more", settles("settles mud+1"), 91);
        due("beyond: 9 less one, 0 less one", settles("settles mud-1"), 80);
        due("without", settles("takes 7"), 90);
        due("broken", settles("settles 1/0"), 90);
        due("broken for one", settles("settles 5/from"), 95);
        due("the last", settles("settles 3; settles 4"), 44);
    }

    private static int barred(String law) {
        EelClerk x = ends();
        Parishes.inForce(x, law);
        return x.between(0, 1, 4) * 10 + x.between(1, 0, 4);
    }

    private static void bars() {
        e.words("II", "a word is BARRED, if \"bars\" HOLDS");
        due("always", barred("bars"), 11);
        due("one way", barred("bars if from = 0"), 10);
        due("not so", barred("bars if 1=2"), 0);
        due("broken", barred("bars if 1/0=1"), 0);
        due("the first of two", barred("bars if from = 0; bars if 1=2"), 10);
        due("the last of two", barred("bars if 1=2; bars if to = 0"), 1);
        due("the first, the last broken", barred("bars; bars if 1/0=1"), 11);
        due("without", barred("takes 5"), 0);
    }

    // orders

    private static int acts(EelClerk x, String text) {
        return Checks.orders(x, text);
    }

    private static void orders() {
        e.words("II", "ORDERS: CLAUSE: (\"swim\" SUM | \"gate\" SUM \"to\" SUM | \"stir\" SUM \"to\" SUM | \"pass\") "
                + "[\"times\" TIMES] [\"if\" TEST]. (a SPRING; two SPRINGS; a SPRING, MUD; a DAY.)");
        EelClerk x = Parishes.parish();
        due("swim", acts(x, "swim 1"), 1);
        due("to a spring", x.count(1), 1);
        due("gate", acts(x, "gate 1 to 2"), 1);
        due("between two springs", x.between(1, 2, 1), 1);
        due("stir", acts(x, "stir 0 to 2"), 1);
        due("a spring, mud", x.of(0, 1) * 10 + x.of(2, 1), 20);
        due("pass", acts(x, "pass"), 1);
        due("a day", x.count(14), 1);
        due("times, if", acts(x, "pass times 2 if 1=1"), 2);
        order("swim 1 times 2 if 1=1", -1);
        order("swim 1 if 1=1 times 2", 14);
        order("pass times 2 times 2", 13);
        order("pass if 1=1 if 1=1", 12);
        order("swim", 4);
        order("stir 1", 6);
        order("stir 1 to", 9);
        order("stir to 1", 5);
    }

    private static void times() {
        e.words("II", "TIMES: a NUMBER 1 .. 20.");
        order("pass times 0", 11);
        order("pass times 1", -1);
        order("pass times 20", -1);
        order("pass times 21", 11);
        order("pass times 0020", -1);
        order("pass times 4294967297", 11);
        order("pass times", 10);
        order("pass times at", 11);
        order("pass times [1]", 11);
        order("pass times 1+1", 12);
        e.words("II", "Run CLAUSE by CLAUSE, each as often as TIMES tell (once without)");
        due("once", acts(new EelClerk(), "pass times 1"), 1);
        due("twenty", acts(new EelClerk(), "pass times 20"), 20);
        due("without", acts(new EelClerk(), "pass"), 1);
        due("each", acts(new EelClerk(), "pass times 3; pass; pass times 2"), 6);
        due("as it was told in a text ahead", actsBehind("pass times 9", "pass"), 1);
    }

    private static int actsBehind(String first, String second) {
        EelClerk x = new EelClerk();
        acts(x, first);
        return acts(x, second);
    }

    private static void which() {
        e.words("II", "(S: a NUMBER 0 .. 8)");
        order("swim mud 0", -1);
        order("swim mud 8", -1);
        order("swim mud 9", 9);
        order("swim soon 0", -1);
        order("swim soon 8", -1);
        order("swim soon 9", 10);
        order("swim soon 008", -1);
        order("swim mud 4294967296", 9);
        order("swim mud", 8);
        order("swim mud at", 9);
        order("swim soon [1]", 10);
        order("swim soon", 9);
        e.words("II", "S, TIMES aside, NUMBERS and words count as PARTS.");
        order(many("swim mud 1", "+soon 1", 49), -1);
        order(many("swim mud 1", "+mud 1", 49) + " times 3", -1);
        order(many("swim at", "+at", 48) + " times 3;swim 1 times 4", -1);
        order(many("swim at", "+at", 48) + " times 3;swim 1 times 4;swim 1", 180);
        order(many("pass times 1 if 1=1", ";pass times 1 if 1=1", 11), -1);
    }

    private static void ifs() {
        e.words("II", "each time its \"if\" is asked (not run, if it is not so or BROKEN), then its SUMS from the left");
        due("not so", acts(Parishes.parish(), "pass times 20 if 1=2"), 0);
        due("broken", acts(Parishes.parish(), "pass times 20 if 1/0=1"), 0);
        due("not so: its sums are not asked", acts(Parishes.parish(), "swim 1/0 if 1=2"), 0);
        due("broken: its sums are not asked", acts(Parishes.parish(), "swim 1/0 if 1/0=1"), 0);
        due("each time", acts(Parishes.parish(), "pass times 20 if day < 3"), 3);
        due("so again later", acts(Parishes.parish(), "pass if done = 1; pass; pass if done = 1"), 2);
        EelClerk x = Parishes.parish();
        due("its sums each time", acts(x, "stir done to 8 times 3"), 3);
        due("its sums each time", x.of(0, 1) * 100 + x.of(1, 1) * 10 + x.of(2, 1), 888);
        due("the first sum broken", acts(x, "gate 1/0 to 1"), -3);
        due("the second sum broken", acts(x, "gate 0 to 1/0"), -3);
    }

    private static void orderWords() {
        e.words("II", "done: how many were run in this TEXT, latest: what the latest swim in it told (-1: none), "
                + "at: where the EEL is, shut: how many CHANNELS are, mud: of a SPRING");
        EelClerk x = Parishes.parish();
        due("none", acts(x, "pass if latest = 0-1 and done = 0 and at = 0 and shut = 0"), 1);
        due("a day is no order", acts(x, "pass if day = 1 and done = 0"), 1);
        due("an order is no day", acts(x, "stir 2 to 3; stir 2 to 0; pass if done = 2 and day = 2"), 3);
        due("one", acts(x, "swim 1; pass if latest = 4 and done = 1 and at = 1"), 2);
        due("none in this text", acts(x, "pass if latest = 0-1 and done = 0 and at = 1"), 1);
        due("the latest", acts(x, "swim 2; swim 1; swim 0; pass if latest = 4 and done = 3 and at = 0"), 4);
        due("one that was not run", acts(x, "swim 1; swim 2 if 1=2; pass if latest = 4 and done = 1"), 2);
        due("shut", acts(x, "gate 0 to 1; gate 1 to 2; pass if shut = 2; gate 0 to 1; pass if shut = 1"), 5);
        due("mud", acts(x, "pass if mud 0 = 1 and mud 3 = 9; stir 3 to 0; pass if mud 3 = 0"), 3);
        due("what was refused does not count", acts(x, "pass; swim 1/0"), -3);
        due("done", acts(x, "pass if done = 0 and latest = 0-1"), 1);
        e.words("II", "soon: SOON from where the EEL is to a SPRING (-1 if never)");
        EelClerk y = Parishes.parish();
        due("to itself", acts(y, "pass if soon 0 = 0"), 1);
        due("by a way", acts(y, "pass if soon 2 = 7 and soon 3 = 9"), 1);
        due("from where it is then", acts(y, "swim 2; pass if soon 2 = 0 and soon 0 = 7; swim 3; pass if soon 2 = 2"), 4);
        due("never", acts(y, "gate 2 to 3; pass if soon 2 = 0-1 and soon 3 = 0"), 2);
        due("as the law tells then", acts(y, "gate 2 to 3; pass if soon 2 = 2"), 2);
        Parishes.inForce(y, "takes 10 + day if day > 5");
        y.terms(0, 5);
        due("as the day is then", acts(y, "pass if soon 2 = 2; pass if soon 2 = 16; pass if soon 2 = 17"), 3);
    }

    private static void noSpring() {
        e.words("II", "-1 without such a SPRING.");
        EelClerk x = Parishes.parish();
        due("mud", acts(x, "pass if mud 3 = 9; pass if mud 4 = 0-1; pass if mud 8 = 0-1"), 3);
        due("soon", acts(x, "pass if soon 3 = 9; pass if soon 4 = 0-1; pass if soon 8 = 0-1"), 3);
        due("no springs", acts(new EelClerk(), "pass if mud 0 = 0-1 and soon 0 = 0-1 and at = 0"), 1);
        EelClerk y = new EelClerk();
        y.spring(0, 0);
        y.image(0);
        y.spring(0, 5);
        y.back(0);
        due("one that was, ahead of back()", acts(y, "pass if mud 1 = 0-1 and soon 1 = 0-1"), 1);
    }

    private static void cannotBe() {
        e.words("II", "One that can't be (a BROKEN SUM, as swim(), gate(), stir(), pass() are REFUSED) ends it: all is as it was "
                + "ahead of it.");
        String[] last = {"swim 1/0", "gate 0 to 0%0", "stir 1000*1000*1000+1 to 0", "swim at", "swim 3", "swim 4", "swim 0-1",
            "gate 0 to 0", "gate 0 to 4", "gate 0 to 3", "stir 0 to 5", "stir 0 to 10", "stir 0 to 0-1", "stir 4 to 1",
            "pass times 20", "swim 1000*1000*1000", "swim 0-1000*1000*1000", "stir 0 to 1000*1000*1000"};
        for (String one : last) {
            EelClerk x = Parishes.parish();
            x.terms(0, 998);
            x.gate(1, 2);
            String text = "stir 0 to 5; pass if not " + (one.startsWith("pass") ? "1=2" : "1=1") + "; gate 0 to 2; " + one
                    + "; pass times 20";
            due(one, acts(x, text), -3);
            due("which: " + one, x.stopped(), 3);
            due("day: " + one, x.count(14), 998);
            due("mud: " + one, x.of(0, 1), 1);
            due("shut: " + one, x.count(3) * 10 + x.between(1, 2, 1), 11);
            due("where it is: " + one, x.count(1), 0);
            due("what can be undone: " + one, x.count(6) * 10 + x.undo(), 11);
            due("no fault: " + one, x.fault(), -1);
        }
        EelClerk x = Parishes.parish();
        due("the second time", acts(x, "swim 1; swim 2 times 2"), -3);
        due("all of it", x.count(1) + x.count(6), 0);
        sixteenAhead();
    }

    /** Orders that do more than can be kept, and can't be: what could be undone ahead of them still can. */
    private static void sixteenAhead() {
        EelClerk x = Parishes.parish();
        for (int i = 0; i < 5; i++) {
            x.stir(0, 2 + i);
            x.pass();
            x.gate(0, 1);
            x.swim(i % 2 == 0 ? 2 : 0);
        }
        due("more than sixteen", acts(x, "stir 1 to 9; pass times 20; gate 2 to 3 times 3; swim 3"), -3);
        due("as many as ahead", x.count(6), 16);
        for (int i = 4; i > 0; i--) {
            due("swim", x.undo() * 10 + x.count(1), i % 2 == 0 ? 0 : 2);
            due("gate", x.undo() * 10 + x.count(3), 10 + i % 2);
            due("pass", x.undo() * 10 + x.count(14), 30 + i);
            due("stir", x.undo() * 100 + x.of(0, 1) * 10 + x.of(1, 1), 200 + (1 + i) * 10 + 2);
        }
        due("no more", x.undo(), -3);
    }
}
