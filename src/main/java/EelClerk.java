import java.util.Arrays;

/** A parish clerk who is an eel. What each call does is said, by promises, in ../shared/DOC.md. */
public final class EelClerk {
    public static final int NONE = -1;

    // what a call is refused by
    private static final int BAD_NUMBER = -1;
    private static final int NO_SUCH = -2;
    private static final int CANNOT_BE = -3;
    private static final int NO_ROOM = -5;
    private static final int BAD_TEXT = -6;

    // the acts, numbered as undo() tells them
    private static final int SWIM = 0;
    private static final int GATE = 1;
    private static final int STIR = 2;
    private static final int PASS = 3;

    // what the clauses of a law speak of
    private static final int TAKES = 0;
    private static final int WEIGHS = 1;
    private static final int SETTLES = 2;
    private static final int BARS = 3;

    private static final int MOST_SPRINGS = 9;
    private static final int MOST_CHANNELS = 36;
    private static final int MOST_HEARD = 6;
    private static final int MOST_LAWS = 6;
    private static final int MOST_BYTES = 400;
    private static final int MOST_CLAUSES = 12;
    private static final int MOST_PARTS = 50;
    private static final int MOST_BRACKETS = 8;
    private static final int MOST_GATES = 9;
    private static final int MOST_CHANCES = 20;
    private static final int TOP_LEVEL = 9;
    private static final int TOP_MUD = 9;
    private static final int TOP_FAR = 50;
    private static final int LAST_DAY = 999;
    private static final int IMAGES = 2;
    private static final int MOST_PAIRS = MOST_SPRINGS * MOST_SPRINGS;
    private static final int LAW_WORDS = 7;

    /** More days than any way can take, few enough that sums of it stay an int. */
    private static final int NEVER = 1000000;

    /** Told in place of the number of a sum or a test; no sum comes near it. */
    private static final long BROKEN = -9000000000000000000L;

    // where the words stand of which the orders may ask
    private static final int ORDER_MUD = 5;
    private static final int ORDER_SOON = 14;
    private static final int ORDER_WORDS = 23;

    private final Parish now = new Parish();
    private final Parish ahead = new Parish();
    private final Parish drawn = new Parish();
    private final Parish[] images = {new Parish(), new Parish()};
    private final Journal journal = new Journal();
    private final Journal journalAhead = new Journal();
    private final Tape tape = new Tape();
    private final Reader reader = new Reader();
    private final Asker asker = new Asker();
    private final Paper paper = new Paper();
    private final Rounds rounds = new Rounds();
    private final Outlet outlet = new Outlet();
    private final Rumour rumour = new Rumour();
    private final int[] orderWords = new int[ORDER_WORDS];
    private final long[] chances = new long[MOST_CHANCES];
    private final int[] refusals = new int[-BAD_TEXT];
    private int bubbles = 0;
    private int fault = NONE;
    private int stopped = NONE;
    private int status = 0;

    public EelClerk() {
    }

    public int spring(int level, int mud) {
        if (level < 0 || level > TOP_LEVEL || mud < 0 || mud > TOP_MUD) {
            return refused(BAD_NUMBER);
        }
        if (now.springs >= MOST_SPRINGS) {
            return refused(NO_ROOM);
        }
        journal.clear();
        return granted(now.addSpring(level, mud));
    }

    public int channel(int one, int other, int far) {
        if (one == other || far < 0 || far > TOP_FAR) {
            return refused(BAD_NUMBER);
        }
        if (!now.has(one) || !now.has(other)) {
            return refused(NO_SUCH);
        }
        journal.clear();
        return granted(now.dig(one, other, far));
    }

    public int of(int spring, int what) {
        if (!now.has(spring)) {
            return NONE;
        }
        switch (what) {
            case 0:
                return now.levelOf(spring);
            case 1:
                return now.mudOf(spring);
            case 2:
                return asker.told(now, now.lawInForce(), SETTLES, spring, NONE);
            default:
                return NONE;
        }
    }

    public int between(int one, int other, int what) {
        int pair = now.pairOf(one, other);
        if (pair == NONE || what < 0 || what > 4) {
            return NONE;
        }
        if (what == 0) {
            return now.farOf(pair);
        }
        if (what == 1) {
            return now.isShut(pair) ? 1 : 0;
        }
        if (now.farOf(pair) == 0) {
            return NONE;
        }
        return asker.told(now, now.lawInForce(), kindTold(what), one, other);
    }

    public int terms(int what, int value) {
        if (what < 0 || what > 2 || value < 0 || value > topOfTerm(what)) {
            return refused(BAD_NUMBER);
        }
        int was = now.term(what);
        now.setTerm(what, value);
        journal.clear();
        return granted(was);
    }

    public int feed(int a, int b, int c, int d, int e) {
        if (tape.length + 20 > MOST_BYTES) {
            return NONE;
        }
        tape.put(a);
        tape.put(b);
        tape.put(c);
        tape.put(d);
        tape.put(e);
        return tape.length;
    }

    public int end(int n) {
        if (n < 0 || n > tape.length) {
            return NONE;
        }
        tape.length = n;
        return n;
    }

    public int row() {
        int length = tape.length;
        if (length == 0) {
            return refused(BAD_TEXT);
        }
        int told = 0;
        int missed = 0;
        for (int place = 0; place < length; place += 3) {
            if (digFromTape(place)) {
                told++;
            } else {
                missed++;
            }
        }
        tape.length = 0;
        bubbles = missed;
        journal.clear();
        return granted(told);
    }

    public int bubbles() {
        return bubbles;
    }

    public int law() {
        if (now.lawCount >= MOST_LAWS) {
            tape.length = 0;
            return refused(NO_ROOM);
        }
        fault = reader.faultIn(tape, false);
        tape.length = 0;
        if (fault != NONE) {
            return refused(BAD_TEXT);
        }
        return granted(now.addLaw(reader.text.copied()));
    }

    public int orders() {
        stopped = NONE;
        fault = reader.faultIn(tape, true);
        tape.length = 0;
        if (fault != NONE) {
            return refused(BAD_TEXT);
        }
        ahead.copyFrom(now);
        journalAhead.copyFrom(journal);
        int done = run(reader.text);
        if (done == NONE) {
            now.copyFrom(ahead);
            journal.copyFrom(journalAhead);
            return refused(CANNOT_BE);
        }
        return granted(done);
    }

    public int fault() {
        return fault;
    }

    public int stopped() {
        return stopped;
    }

    public int force(int law) {
        if (law != NONE && !now.hasLaw(law)) {
            return refused(NO_SUCH);
        }
        int was = now.force;
        now.force = law;
        return granted(was);
    }

    public int swim(int spring) {
        return answered(act(SWIM, spring, 0));
    }

    public int gate(int one, int other) {
        return answered(act(GATE, one, other));
    }

    public int stir(int spring, int mud) {
        return answered(act(STIR, spring, mud));
    }

    public int pass() {
        return answered(act(PASS, 0, 0));
    }

    public int undo() {
        return answered(journal.takeBack(now));
    }

    public int soon(int from, int to) {
        fillPaper();
        return paper.soonest(from, to);
    }

    public int way(int from, int to, int i) {
        fillPaper();
        return paper.onWay(from, to, i);
    }

    public int never(int from) {
        fillPaper();
        return paper.unreached(from);
    }

    public int centre(int what) {
        if (what != 0 && what != 1) {
            return NONE;
        }
        fillPaper();
        int centre = paper.middle();
        return what == 0 || centre == NONE ? centre : paper.lastDay(centre);
    }

    public int round(int springs, int i) {
        if (now.springs == 0 || i < NONE || !now.hasAll(springs)) {
            return NONE;
        }
        fillPaper();
        rounds.plan(paper, now.at, springs);
        return i == NONE ? rounds.days() : rounds.stop(i);
    }

    public int bound(int p, int q, int what) {
        if (p == q || !now.has(p) || !now.has(q) || what < 0 || what > 1) {
            return NONE;
        }
        paper.fillCuts(now, asker);
        int set = paper.lightestSet(p, q);
        return what == 0 ? paper.cutOf(set) : set;
    }

    public int share(int springs, int spring) {
        if (!now.has(spring) || !now.hasAll(springs)) {
            return NONE;
        }
        fillPaper();
        return paper.nearestOf(springs, spring);
    }

    public int sea(int k, int i) {
        if (now.springs == 0 || k < 0 || k > MOST_GATES || i < NONE) {
            return NONE;
        }
        fillPaper();
        outlet.fill(paper, k);
        return i == NONE ? outlet.days(now.at) : outlet.onWay(paper, now.at, i);
    }

    public int heard(int spring, int day) {
        if (day < 0 || day > LAST_DAY) {
            return refused(BAD_NUMBER);
        }
        if (!now.has(spring)) {
            return refused(NO_SUCH);
        }
        if (now.heard >= MOST_HEARD) {
            return refused(NO_ROOM);
        }
        return granted(now.hear(spring, day));
    }

    public int forget() {
        int was = now.heard;
        now.heard = 0;
        return was;
    }

    public int canBe() {
        fillPaper();
        rumour.fill(paper, now);
        return rumour.origins();
    }

    public int since(int spring) {
        if (now.heard == 0 || !now.has(spring)) {
            return NONE;
        }
        fillPaper();
        rumour.fill(paper, now);
        return rumour.startAt(spring);
    }

    public int listen(int what) {
        if (what != 0 && what != 1) {
            return NONE;
        }
        fillPaper();
        rumour.fill(paper, now);
        int spring = rumour.bestEar(paper);
        return what == 0 || spring == NONE ? spring : rumour.leftAt(paper, spring);
    }

    public long few(int k, int n) {
        if (k < 1 || k > MOST_CHANCES || n < 0 || n > 99) {
            return NONE;
        }
        Arrays.fill(chances, 0L);
        chances[0] = 1000000000000L;
        for (int string = 0; string < n; string++) {
            pullString();
        }
        long together = 0;
        for (int slipped = 0; slipped < k && slipped < chances.length; slipped++) {
            together += chances[slipped];
        }
        return together;
    }

    public int compare(int law, int from, int to) {
        if (law != NONE && !now.hasLaw(law)) {
            return NONE;
        }
        paper.fill(now, now.lawOf(law), asker);
        return paper.soonest(from, to);
    }

    public int years(int seed, int n) {
        if (seed < 0 || seed > 1000000 || n < 1 || n > 60) {
            return refused(BAD_NUMBER);
        }
        if (now.springs == 0) {
            return refused(CANNOT_BE);
        }
        drawn.copyFrom(now);
        int days = 0;
        int last = seed;
        for (int year = 0; year < n && drawn.day < LAST_DAY; year++) {
            int first = nextDraw(last);
            int second = nextDraw(first);
            int third = nextDraw(second);
            last = nextDraw(third);
            days += actOnPaper(first, second, third, last % 4);
            drawn.nextDay(asker);
        }
        return granted(days);
    }

    public int drawn(int k, int what) {
        if (!drawn.has(k)) {
            return NONE;
        }
        if (what == 0) {
            return drawn.mudOf(k);
        }
        if (what == 1) {
            return drawn.at == k ? 1 : 0;
        }
        return NONE;
    }

    public int image(int k) {
        if (k < 0 || k >= IMAGES) {
            return refused(BAD_NUMBER);
        }
        images[k].copyFrom(now);
        images[k].kept = true;
        return granted(0);
    }

    public int back(int k) {
        if (k < 0 || k >= IMAGES) {
            return refused(BAD_NUMBER);
        }
        if (!images[k].kept) {
            return refused(NO_SUCH);
        }
        now.copyFrom(images[k]);
        journal.clear();
        return granted(0);
    }

    public int count(int what) {
        switch (what) {
            case 0:
                return now.springs;
            case 1:
                return now.at;
            case 2:
                return now.channels();
            case 3:
                return Long.bitCount(now.shut);
            case 4:
                return now.heard;
            case 5:
                return now.lawCount;
            case 6:
                return journal.size;
            case 7:
                return tape.length;
            case 8:
                return refusalsBy(BAD_NUMBER);
            case 9:
                return refusalsBy(NO_SUCH);
            case 10:
                return refusalsBy(CANNOT_BE);
            case 11:
                return refusalsBy(NO_ROOM);
            case 12:
                return refusalsBy(BAD_TEXT);
            case 13:
                return now.force;
            case 14:
            case 15:
            case 16:
                return now.term(what - 14);
            default:
                return NONE;
        }
    }

    public int status() {
        return status;
    }

    private int granted(int told) {
        status = 0;
        return told;
    }

    private int refused(int by) {
        int place = -by - 1;
        if (place >= 0 && place < refusals.length) {
            refusals[place]++;
        }
        status = by;
        return by;
    }

    /** Acts tell what they are refused by as the only numbers below 0. */
    private int answered(int told) {
        return told < 0 ? refused(told) : granted(told);
    }

    private int refusalsBy(int by) {
        int place = -by - 1;
        return place >= 0 && place < refusals.length ? refusals[place] : 0;
    }

    /** What between() asks a law of by its number. */
    private static int kindTold(int what) {
        if (what == 2) {
            return TAKES;
        }
        return what == 3 ? WEIGHS : BARS;
    }

    private static int topOfTerm(int what) {
        if (what == 0) {
            return LAST_DAY;
        }
        return what == 1 ? 10 : 9;
    }

    /** Digs what three bytes of the tape tell; false: they are a bubble. */
    private boolean digFromTape(int place) {
        int one = tape.byteAt(place);
        int other = tape.byteAt(place + 1);
        int far = tape.byteAt(place + 2);
        if (now.pairOf(one, other) == NONE || far > TOP_FAR) {
            return false;
        }
        now.dig(one, other, far);
        return true;
    }

    /** Acts on the parish as it stands, so that it can be undone; below 0: what it is refused by. */
    private int act(int kind, int a, int b) {
        int at = now.at;
        int day = now.day;
        long shut = now.shut;
        long mud = now.mud;
        int told;
        switch (kind) {
            case SWIM:
                told = now.goTo(a, asker);
                break;
            case GATE:
                told = now.turnGate(a, b);
                break;
            case STIR:
                told = now.muddy(a, b);
                break;
            default:
                told = now.nextDay(asker);
                break;
        }
        if (told >= 0) {
            journal.add(kind, at, day, shut, mud);
        }
        return told;
    }

    /** How many orders were run; NONE: one can't be, and stopped tells which. */
    private int run(Text text) {
        int done = 0;
        int latest = NONE;
        long[] stack = asker.stack;
        for (int clause = 0; clause < text.clauses; clause++) {
            int kind = text.kindOf(clause);
            for (int time = 0; time < text.timesOf(clause); time++) {
                if (text.asksSoon) {
                    paper.fill(now, now.lawInForce(), asker);
                }
                tellOrderWords(done, latest);
                if (text.value(clause, Text.TEST, orderWords, stack) != 1) {
                    continue;
                }
                long a = text.value(clause, Text.FIRST, orderWords, stack);
                long b = text.value(clause, Text.SECOND, orderWords, stack);
                int told = a == BROKEN || b == BROKEN ? CANNOT_BE : act(kind, (int) a, (int) b);
                if (told < 0) {
                    stopped = clause;
                    return NONE;
                }
                done++;
                if (kind == SWIM) {
                    latest = told;
                }
            }
        }
        return done;
    }

    /** How soon the word comes is as the paper has it: of use to a text alone that asks for that. */
    private void tellOrderWords(int done, int latest) {
        orderWords[0] = now.day;
        orderWords[1] = done;
        orderWords[2] = latest;
        orderWords[3] = now.at;
        orderWords[4] = Long.bitCount(now.shut);
        for (int spring = 0; spring < MOST_SPRINGS; spring++) {
            orderWords[ORDER_MUD + spring] = now.mudOf(spring);
            orderWords[ORDER_SOON + spring] = paper.soonest(now.at, spring);
        }
    }

    private void fillPaper() {
        paper.fill(now, now.lawInForce(), asker);
    }

    /** One more string: from the top down, so that each part is still that of the string ahead. */
    private void pullString() {
        int slips = now.slips;
        for (int slipped = chances.length - 1; slipped >= 0; slipped--) {
            long more = slipped > 0 ? chances[slipped - 1] * slips / 10 : 0;
            chances[slipped] = chances[slipped] * (10 - slips) / 10 + more;
        }
    }

    private static int nextDraw(int s) {
        return (int) ((s * 1103L + 12345) % 1000003);
    }

    /** What one time of the years does ahead of the day's end; tells how many days it swam. */
    private int actOnPaper(int first, int second, int third, int what) {
        int springs = drawn.springs;
        if (springs <= 0) {
            return 0;
        }
        int spring = first % springs;
        if (what == 0) {
            drawn.turnGate(spring, second % springs);
        } else if (what == 1) {
            drawn.muddy(spring, third % 10);
        } else if (what == 2) {
            int days = drawn.goTo(spring, asker);
            return days > 0 ? days : 0;
        }
        return 0;
    }

    /** All that an image keeps. */
    private static final class Parish {
        int springs = 0;
        private final int[] level = new int[MOST_SPRINGS];
        private final int[] far = new int[MOST_CHANNELS];
        /** Four bits a spring: what can be undone keeps the mud as one number. */
        long mud = 0;
        /** One bit a channel, for the same reason. */
        long shut = 0;
        int at = 0;
        int day = 0;
        int slips = 1;
        int mood = 0;
        int heard = 0;
        private final int[] heardAt = new int[MOST_HEARD];
        private final int[] heardOn = new int[MOST_HEARD];
        int lawCount = 0;
        private final Text[] laws = new Text[MOST_LAWS];
        int force = NONE;
        /** Of an image alone: whether it is one yet. */
        boolean kept = false;

        void copyFrom(Parish other) {
            springs = other.springs;
            System.arraycopy(other.level, 0, level, 0, MOST_SPRINGS);
            System.arraycopy(other.far, 0, far, 0, MOST_CHANNELS);
            mud = other.mud;
            shut = other.shut;
            at = other.at;
            day = other.day;
            slips = other.slips;
            mood = other.mood;
            heard = other.heard;
            System.arraycopy(other.heardAt, 0, heardAt, 0, MOST_HEARD);
            System.arraycopy(other.heardOn, 0, heardOn, 0, MOST_HEARD);
            lawCount = other.lawCount;
            for (int law = 0; law < MOST_LAWS; law++) {
                laws[law] = other.laws[law];
            }
            force = other.force;
        }

        boolean has(int spring) {
            return spring >= 0 && spring < springs;
        }

        boolean hasAll(int set) {
            return set >= 0 && set < 1 << springs;
        }

        int addSpring(int itsLevel, int itsMud) {
            int spring = springs;
            if (spring < 0 || spring >= level.length) {
                return NONE;
            }
            level[spring] = itsLevel;
            springs = spring + 1;
            setMud(spring, itsMud);
            return spring;
        }

        int levelOf(int spring) {
            return spring >= 0 && spring < level.length ? level[spring] : 0;
        }

        int mudOf(int spring) {
            return spring >= 0 && spring < springs ? (int) (mud >>> 4 * spring) & 15 : NONE;
        }

        private void setMud(int spring, int value) {
            mud = mud & ~(15L << 4 * spring) | (long) value << 4 * spring;
        }

        /** The place of the channel between two springs, whether it is there or not; NONE: none can be. */
        int pairOf(int one, int other) {
            if (one == other || one < 0 || other < 0 || one >= springs || other >= springs) {
                return NONE;
            }
            int high = one > other ? one : other;
            int low = one > other ? other : one;
            return high * (high - 1) / 2 + low;
        }

        int farOf(int pair) {
            return pair >= 0 && pair < far.length ? far[pair] : 0;
        }

        boolean isShut(int pair) {
            return pair >= 0 && (shut >>> pair & 1) == 1;
        }

        /** How far it was. */
        int dig(int one, int other, int itsFar) {
            int pair = pairOf(one, other);
            if (pair < 0 || pair >= far.length) {
                return 0;
            }
            int was = far[pair];
            far[pair] = itsFar;
            shut &= ~(1L << pair);
            return was;
        }

        int channels() {
            int count = 0;
            for (int pair = 0; pair < far.length; pair++) {
                if (far[pair] > 0) {
                    count++;
                }
            }
            return count;
        }

        int term(int what) {
            if (what == 0) {
                return day;
            }
            return what == 1 ? slips : mood;
        }

        void setTerm(int what, int value) {
            if (what == 0) {
                day = value;
            } else if (what == 1) {
                slips = value;
            } else {
                mood = value;
            }
        }

        int hear(int spring, int onDay) {
            if (heard >= 0 && heard < MOST_HEARD) {
                heardAt[heard] = spring;
                heardOn[heard] = onDay;
                heard++;
            }
            return heard;
        }

        boolean hasLaw(int law) {
            return law >= 0 && law < lawCount;
        }

        int addLaw(Text law) {
            int number = lawCount;
            if (number < 0 || number >= laws.length) {
                return NONE;
            }
            laws[number] = law;
            lawCount = number + 1;
            return number;
        }

        /** A law by its number; null without. */
        Text lawOf(int law) {
            return law >= 0 && law < lawCount && law < laws.length ? laws[law] : null;
        }

        Text lawInForce() {
            return lawOf(force);
        }

        /** In the order of Reader.lawWord(). */
        void tellChannel(int one, int other, int[] words) {
            if (words.length < LAW_WORDS) {
                return;
            }
            words[0] = one;
            words[1] = other;
            words[2] = farOf(pairOf(one, other));
            words[3] = levelOf(one) - levelOf(other);
            words[4] = mudOf(other);
            words[5] = day;
            words[6] = mood;
        }

        void tellSpring(int spring, int[] words) {
            if (words.length < LAW_WORDS) {
                return;
            }
            words[0] = spring;
            words[1] = NONE;
            words[2] = NONE;
            words[3] = 0;
            words[4] = mudOf(spring);
            words[5] = day;
            words[6] = mood;
        }

        int goTo(int spring, Asker asker) {
            if (!has(spring)) {
                return NO_SUCH;
            }
            Text law = lawInForce();
            int pair = pairOf(at, spring);
            if (farOf(pair) == 0 || isShut(pair) || asker.told(this, law, BARS, at, spring) == 1) {
                return CANNOT_BE;
            }
            int days = asker.told(this, law, TAKES, at, spring);
            at = spring;
            return days;
        }

        int turnGate(int one, int other) {
            if (one == other) {
                return BAD_NUMBER;
            }
            if (!has(one) || !has(other)) {
                return NO_SUCH;
            }
            int pair = pairOf(one, other);
            if (farOf(pair) == 0) {
                return CANNOT_BE;
            }
            shut ^= 1L << pair;
            return isShut(pair) ? 1 : 0;
        }

        int muddy(int spring, int value) {
            if (value < 0 || value > TOP_MUD) {
                return BAD_NUMBER;
            }
            if (!has(spring)) {
                return NO_SUCH;
            }
            int was = mudOf(spring);
            if (was == value) {
                return CANNOT_BE;
            }
            setMud(spring, value);
            return was;
        }

        /** Of how many springs the mud is other then. */
        int nextDay(Asker asker) {
            if (day >= LAST_DAY) {
                return CANNOT_BE;
            }
            Text law = lawInForce();
            long settled = 0;
            int others = 0;
            for (int spring = 0; spring < springs; spring++) {
                int value = asker.told(this, law, SETTLES, spring, NONE);
                settled |= (long) value << 4 * spring;
                if (value != mudOf(spring)) {
                    others++;
                }
            }
            mud = settled;
            day++;
            return others;
        }
    }

    /** The latest acts, each with what stood ahead of it, in a ring: the oldest gives way. */
    private static final class Journal {
        private static final int ROOM = 16;
        private static final int LAST = ROOM - 1;

        int size = 0;
        private int next = 0;
        private final int[] kinds = new int[ROOM];
        private final int[] ats = new int[ROOM];
        private final int[] days = new int[ROOM];
        private final long[] shuts = new long[ROOM];
        private final long[] muds = new long[ROOM];

        void clear() {
            size = 0;
        }

        void copyFrom(Journal other) {
            size = other.size;
            next = other.next;
            System.arraycopy(other.kinds, 0, kinds, 0, ROOM);
            System.arraycopy(other.ats, 0, ats, 0, ROOM);
            System.arraycopy(other.days, 0, days, 0, ROOM);
            System.arraycopy(other.shuts, 0, shuts, 0, ROOM);
            System.arraycopy(other.muds, 0, muds, 0, ROOM);
        }

        void add(int kind, int at, int day, long shut, long mud) {
            int place = next & LAST;
            kinds[place] = kind;
            ats[place] = at;
            days[place] = day;
            shuts[place] = shut;
            muds[place] = mud;
            next = place + 1;
            if (size < ROOM) {
                size++;
            }
        }

        /** Which act was taken back; CANNOT_BE: there is none. */
        int takeBack(Parish parish) {
            if (size <= 0) {
                return CANNOT_BE;
            }
            int place = next + LAST & LAST;
            size--;
            next = place;
            parish.at = ats[place];
            parish.day = days[place];
            parish.shut = shuts[place];
            parish.mud = muds[place];
            return kinds[place];
        }
    }

    /** A law or orders as read: of each clause where its sums and its test begin in the code. */
    private static final class Text {
        // what a number of the code tells to do in its lowest bits, above them with what
        static final int BITS = 4;
        static final int NUMBER = 0;
        static final int WORD = 1;
        static final int AND = 2;
        static final int OR = 3;
        static final int NOT = 4;
        static final int ADD = 5;
        static final int LESSEN = 6;
        static final int MULTIPLY = 7;
        static final int DIVIDE = 8;
        static final int REST = 9;
        static final int BELOW = 10;
        static final int ABOVE = 11;
        static final int EQUAL = 12;
        static final int END = 13;
        private static final long BEYOND = 1000000000L;

        // what a clause can have: its sums, its test
        static final int FIRST = 0;
        static final int SECOND = 1;
        static final int TEST = 2;
        private static final int STARTS = 3;

        private final int[] code;
        int length = 0;
        int clauses = 0;
        boolean asksSoon = false;
        private final int[] kinds = new int[MOST_CLAUSES];
        private final int[] times = new int[MOST_CLAUSES];
        private final int[] starts = new int[MOST_CLAUSES * STARTS];

        Text(int room) {
            code = new int[room > 0 ? room : 0];
        }

        Text copied() {
            int room = length < code.length ? length : code.length;
            Text copy = new Text(room);
            for (int place = 0; place < copy.code.length && place < room; place++) {
                copy.code[place] = code[place];
            }
            copy.length = room;
            copy.clauses = clauses;
            copy.asksSoon = asksSoon;
            System.arraycopy(kinds, 0, copy.kinds, 0, MOST_CLAUSES);
            System.arraycopy(times, 0, copy.times, 0, MOST_CLAUSES);
            System.arraycopy(starts, 0, copy.starts, 0, MOST_CLAUSES * STARTS);
            return copy;
        }

        void clear() {
            length = 0;
            clauses = 0;
            asksSoon = false;
            Arrays.fill(starts, NONE);
        }

        /** The clause that is begun last is the one of which times and starts are told. */
        void begin(int kind) {
            if (clauses >= 0 && clauses < MOST_CLAUSES) {
                kinds[clauses] = kind;
                times[clauses] = 1;
                clauses++;
            }
        }

        void repeat(int count) {
            if (clauses > 0 && clauses <= MOST_CLAUSES) {
                times[clauses - 1] = count;
            }
        }

        void start(int which) {
            int place = (clauses - 1) * STARTS + which;
            if (place >= 0 && place < starts.length) {
                starts[place] = length;
            }
        }

        int kindOf(int clause) {
            return clause >= 0 && clause < MOST_CLAUSES ? kinds[clause] : NONE;
        }

        int timesOf(int clause) {
            return clause >= 0 && clause < MOST_CLAUSES ? times[clause] : 0;
        }

        private int startOf(int clause, int which) {
            int place = clause * STARTS + which;
            return place >= 0 && place < starts.length ? starts[place] : NONE;
        }

        void emit(int what, int with) {
            if (length >= 0 && length < code.length) {
                code[length] = with << BITS | what;
                length++;
            }
        }

        /** What stands behind an "and", an "or" ends here: that one goes on from here, if it needn't be asked. */
        void land(int place, int what) {
            if (place >= 0 && place < code.length) {
                code[place] = length << BITS | what;
            }
        }

        /** What a sum or a test tells, 1 for one that is not there, or BROKEN. */
        long value(int clause, int which, int[] words, long[] stack) {
            int place = startOf(clause, which);
            if (place < 0) {
                return 1;
            }
            int high = 0;
            for (int steps = 0; steps <= length && place < length && place < code.length; steps++) {
                int what = code[place] & (1 << BITS) - 1;
                int with = code[place] >> BITS;
                place++;
                if (what <= WORD) {
                    if (high >= stack.length || what == WORD && (with < 0 || with >= words.length)) {
                        return BROKEN;
                    }
                    stack[high] = what == WORD ? words[with] : with;
                    high++;
                    continue;
                }
                if (high < 1 || high > stack.length || what > NOT && what < END && high < 2) {
                    return BROKEN;
                }
                if (what == END) {
                    return stack[high - 1];
                }
                if (what == NOT) {
                    stack[high - 1] = 1 - stack[high - 1];
                } else if (what <= OR) {
                    boolean settled = stack[high - 1] == (what == OR ? 1 : 0);
                    place = settled && with > place ? with : place;
                    high = settled ? high : high - 1;
                } else {
                    high--;
                    stack[high - 1] = joined(what, stack[high - 1], stack[high]);
                    if (stack[high - 1] == BROKEN) {
                        return BROKEN;
                    }
                }
            }
            return BROKEN;
        }

        private static long joined(int what, long a, long b) {
            long value;
            switch (what) {
                case ADD:
                    value = a + b;
                    break;
                case LESSEN:
                    value = a - b;
                    break;
                case MULTIPLY:
                    value = a * b;
                    break;
                case DIVIDE:
                    value = b == 0 ? BROKEN : a / b;
                    break;
                case REST:
                    value = b == 0 ? BROKEN : a % b;
                    break;
                case BELOW:
                    return a < b ? 1 : 0;
                case ABOVE:
                    return a > b ? 1 : 0;
                default:
                    return a == b ? 1 : 0;
            }
            return value > BEYOND || value < -BEYOND ? BROKEN : value;
        }
    }

    /** The bytes that were fed; while they are read, the token of them that is at hand. */
    private static final class Tape {
        static final int AT_END = 0;
        static final int LETTERS = 1;
        static final int DIGITS = 2;
        static final int SIGN = 3;
        private static final int BLANK = 4;
        private static final int TOP_NUMBER = 1000;

        private final byte[] bytes = new byte[MOST_BYTES];
        int length = 0;
        int from = 0;
        private int to = 0;
        int token = AT_END;
        /** What the digits at hand tell; one that is too large is just that, however many they are. */
        int number = 0;

        void put(int four) {
            for (int shift = 24; shift >= 0; shift -= 8) {
                if (length >= 0 && length < bytes.length) {
                    bytes[length] = (byte) (four >> shift);
                    length++;
                }
            }
        }

        /** Behind the end: what no byte is. */
        int byteAt(int place) {
            return place >= 0 && place < length && place < bytes.length ? bytes[place] & 255 : 256;
        }

        void begin() {
            to = 0;
            next();
        }

        /** The next token is at hand then; at the end it stays there. */
        void next() {
            int place = to;
            while (place < length && kindAt(place) == BLANK) {
                place++;
            }
            from = place;
            token = kindAt(place);
            int end = token == SIGN ? place + 1 : length;
            while (place < end && kindAt(place) == token) {
                place++;
            }
            to = place;
            number = token == DIGITS ? numberAtHand() : 0;
        }

        private int kindAt(int place) {
            if (place < 0 || place >= length || place >= bytes.length) {
                return AT_END;
            }
            int sign = bytes[place];
            if (sign >= 'a' && sign <= 'z') {
                return LETTERS;
            }
            if (sign >= '0' && sign <= '9') {
                return DIGITS;
            }
            return sign == ' ' ? BLANK : SIGN;
        }

        private int numberAtHand() {
            int value = 0;
            for (int place = from; place >= 0 && place < to && place < bytes.length; place++) {
                value = value * 10 + bytes[place] - '0';
                if (value > TOP_NUMBER) {
                    return TOP_NUMBER + 1;
                }
            }
            return value;
        }

        boolean isNumber() {
            return token == DIGITS && number <= TOP_NUMBER;
        }

        boolean isWord(String word) {
            if (token != LETTERS || to - from != word.length()) {
                return false;
            }
            for (int i = 0; i < word.length(); i++) {
                if (byteAt(from + i) != word.charAt(i)) {
                    return false;
                }
            }
            return true;
        }

        boolean takeWord(String word) {
            boolean is = isWord(word);
            if (is) {
                next();
            }
            return is;
        }

        boolean isSign(char sign) {
            return token == SIGN && byteAt(from) == sign;
        }

        boolean takeSign(char sign) {
            boolean is = isSign(sign);
            if (is) {
                next();
            }
            return is;
        }
    }

    /** Reads both languages. Where a private method tells false, the token at hand is the fault. */
    private static final class Reader {
        private static final int MOST_TIMES = 20;

        /** What was read last: a number of code for each token at most, and one for each sum's, each test's end. */
        final Text text = new Text(MOST_BYTES + 3 * MOST_CLAUSES);
        private boolean ofOrders = false;
        private int parts = 0;
        private int brackets = 0;

        /** Where the fault is; NONE: there is none, and the text stands. */
        int faultIn(Tape tape, boolean orders) {
            ofOrders = orders;
            parts = 0;
            brackets = 0;
            text.clear();
            tape.begin();
            for (int clause = 0; clause < MOST_CLAUSES; clause++) {
                if (!readClause(tape)) {
                    return tape.from;
                }
                if (tape.token == Tape.AT_END) {
                    return NONE;
                }
                if (!tape.takeSign(';')) {
                    return tape.from;
                }
            }
            return tape.from;
        }

        private boolean readClause(Tape tape) {
            int kind = ofOrders ? takeOrder(tape) : takeLaw(tape);
            if (kind == NONE) {
                return false;
            }
            text.begin(kind);
            int sums = ofOrders ? sumsOfOrder(kind) : sumsOfLaw(kind);
            for (int sum = 0; sum < sums; sum++) {
                if (sum > 0 && !tape.takeWord("to")) {
                    return false;
                }
                text.start(sum == 0 ? Text.FIRST : Text.SECOND);
                if (!readSum(tape)) {
                    return false;
                }
                text.emit(Text.END, 0);
            }
            if (ofOrders && tape.takeWord("times") && !readTimes(tape)) {
                return false;
            }
            if (!tape.takeWord("if")) {
                return true;
            }
            text.start(Text.TEST);
            if (!readTest(tape)) {
                return false;
            }
            text.emit(Text.END, 0);
            return true;
        }

        private static int takeLaw(Tape tape) {
            if (tape.takeWord("takes")) {
                return TAKES;
            }
            if (tape.takeWord("weighs")) {
                return WEIGHS;
            }
            if (tape.takeWord("settles")) {
                return SETTLES;
            }
            return tape.takeWord("bars") ? BARS : NONE;
        }

        private static int sumsOfLaw(int kind) {
            return kind == BARS ? 0 : 1;
        }

        private static int takeOrder(Tape tape) {
            if (tape.takeWord("swim")) {
                return SWIM;
            }
            if (tape.takeWord("gate")) {
                return GATE;
            }
            if (tape.takeWord("stir")) {
                return STIR;
            }
            return tape.takeWord("pass") ? PASS : NONE;
        }

        private static int sumsOfOrder(int kind) {
            if (kind == PASS) {
                return 0;
            }
            return kind == SWIM ? 1 : 2;
        }

        private boolean readTimes(Tape tape) {
            if (!tape.isNumber() || tape.number < 1 || tape.number > MOST_TIMES) {
                return false;
            }
            text.repeat(tape.number);
            tape.next();
            return true;
        }

        private boolean readTest(Tape tape) {
            if (!readBoth(tape)) {
                return false;
            }
            for (int more = 0; more < MOST_BYTES && tape.takeWord("or"); more++) {
                int place = text.length;
                text.emit(Text.OR, 0);
                if (!readBoth(tape)) {
                    return false;
                }
                text.land(place, Text.OR);
            }
            return true;
        }

        private boolean readBoth(Tape tape) {
            if (!readPlain(tape)) {
                return false;
            }
            for (int more = 0; more < MOST_BYTES && tape.takeWord("and"); more++) {
                int place = text.length;
                text.emit(Text.AND, 0);
                if (!readPlain(tape)) {
                    return false;
                }
                text.land(place, Text.AND);
            }
            return true;
        }

        private boolean readPlain(Tape tape) {
            boolean turned = false;
            for (int more = 0; more < MOST_BYTES && tape.takeWord("not"); more++) {
                turned = !turned;
            }
            boolean read = tape.isSign('(') ? readBracketed(tape, '(', ')') : readComparison(tape);
            if (read && turned) {
                text.emit(Text.NOT, 0);
            }
            return read;
        }

        private boolean readBracketed(Tape tape, char open, char close) {
            if (brackets >= MOST_BRACKETS || !tape.takeSign(open)) {
                return false;
            }
            brackets++;
            boolean read = open == '(' ? readTest(tape) : readSum(tape);
            brackets--;
            return read && tape.takeSign(close);
        }

        private boolean readComparison(Tape tape) {
            if (!readSum(tape)) {
                return false;
            }
            int what = Text.EQUAL;
            if (tape.isSign('<')) {
                what = Text.BELOW;
            } else if (tape.isSign('>')) {
                what = Text.ABOVE;
            } else if (!tape.isSign('=')) {
                return false;
            }
            tape.next();
            if (!readSum(tape)) {
                return false;
            }
            text.emit(what, 0);
            return true;
        }

        private boolean readSum(Tape tape) {
            if (!readTerm(tape)) {
                return false;
            }
            for (int more = 0; more < MOST_BYTES && (tape.isSign('+') || tape.isSign('-')); more++) {
                int what = tape.isSign('+') ? Text.ADD : Text.LESSEN;
                tape.next();
                if (!readTerm(tape)) {
                    return false;
                }
                text.emit(what, 0);
            }
            return true;
        }

        private boolean readTerm(Tape tape) {
            if (!readPart(tape)) {
                return false;
            }
            for (int more = 0; more < MOST_BYTES; more++) {
                int what = Text.REST;
                if (tape.isSign('*')) {
                    what = Text.MULTIPLY;
                } else if (tape.isSign('/')) {
                    what = Text.DIVIDE;
                } else if (!tape.isSign('%')) {
                    return true;
                }
                tape.next();
                if (!readPart(tape)) {
                    return false;
                }
                text.emit(what, 0);
            }
            return true;
        }

        private boolean readPart(Tape tape) {
            if (tape.isSign('[')) {
                return readBracketed(tape, '[', ']');
            }
            if (parts >= MOST_PARTS) {
                return false;
            }
            parts++;
            if (tape.isNumber()) {
                text.emit(Text.NUMBER, tape.number);
                tape.next();
                return true;
            }
            if (ofOrders && tape.takeWord("mud")) {
                return readWhich(tape, ORDER_MUD);
            }
            if (ofOrders && tape.takeWord("soon")) {
                text.asksSoon = true;
                return readWhich(tape, ORDER_SOON);
            }
            int word = ofOrders ? orderWord(tape) : lawWord(tape);
            if (word == NONE) {
                return false;
            }
            text.emit(Text.WORD, word);
            tape.next();
            return true;
        }

        private boolean readWhich(Tape tape, int words) {
            if (!tape.isNumber() || tape.number >= MOST_SPRINGS) {
                return false;
            }
            text.emit(Text.WORD, words + tape.number);
            tape.next();
            return true;
        }

        /** The place of the word at hand among those that Parish.tellChannel() tells. */
        private static int lawWord(Tape tape) {
            if (tape.isWord("from")) {
                return 0;
            }
            if (tape.isWord("to")) {
                return 1;
            }
            if (tape.isWord("far")) {
                return 2;
            }
            if (tape.isWord("fall")) {
                return 3;
            }
            if (tape.isWord("mud")) {
                return 4;
            }
            if (tape.isWord("day")) {
                return 5;
            }
            return tape.isWord("mood") ? 6 : NONE;
        }

        /** The place of the word at hand among those that EelClerk.tellOrderWords() tells. */
        private static int orderWord(Tape tape) {
            if (tape.isWord("day")) {
                return 0;
            }
            if (tape.isWord("done")) {
                return 1;
            }
            if (tape.isWord("latest")) {
                return 2;
            }
            if (tape.isWord("at")) {
                return 3;
            }
            return tape.isWord("shut") ? 4 : NONE;
        }
    }

    /** Asks a law of a channel, of a spring. */
    private static final class Asker {
        final long[] stack = new long[MOST_PARTS];
        private final int[] words = new int[LAW_WORDS];

        /** What the last clause of a kind tells that holds (of a spring: the one); 1, 0 of whether it bars. */
        int told(Parish parish, Text law, int kind, int one, int other) {
            if (kind == SETTLES) {
                parish.tellSpring(one, words);
            } else {
                parish.tellChannel(one, other, words);
            }
            int clauses = law == null ? 0 : law.clauses;
            for (int clause = clauses - 1; clause >= 0 && law != null; clause--) {
                if (law.kindOf(clause) == kind && law.value(clause, Text.TEST, words, stack) == 1) {
                    long value = law.value(clause, Text.FIRST, words, stack);
                    if (value != BROKEN) {
                        return nearest(kind, value);
                    }
                }
            }
            return without(kind);
        }

        private int without(int kind) {
            switch (kind) {
                case TAKES:
                    return words[2];
                case WEIGHS:
                    return 1;
                case SETTLES:
                    return words[4];
                default:
                    return 0;
            }
        }

        private static int nearest(int kind, long value) {
            int low = kind == TAKES ? 1 : 0;
            int high = kind == SETTLES ? TOP_MUD : 99;
            if (value < low) {
                return low;
            }
            return value > high ? high : (int) value;
        }
    }

    /** How soon the word comes from each spring to each other one, and what is read from that. */
    private static final class Paper {
        int springs = 0;
        /** How long a word takes through a channel that is not barred, shut or not; else NEVER. */
        private final int[] through = new int[MOST_PAIRS];
        /** The same, but for the shut ones: NEVER. */
        private final int[] step = new int[MOST_PAIRS];
        private final int[] soon = new int[MOST_PAIRS];
        /** What a channel weighs that is not shut; else 0. */
        private final int[] cut = new int[MOST_PAIRS];

        private static int pair(int one, int other) {
            return one * MOST_SPRINGS + other;
        }

        private boolean has(int spring) {
            return spring >= 0 && spring < springs;
        }

        private void take(Parish parish) {
            springs = parish.springs < MOST_SPRINGS ? parish.springs : MOST_SPRINGS;
        }

        void fill(Parish parish, Text law, Asker asker) {
            take(parish);
            for (int one = 0; one < springs; one++) {
                for (int other = 0; other < springs; other++) {
                    int channel = parish.pairOf(one, other);
                    boolean none = parish.farOf(channel) == 0 || asker.told(parish, law, BARS, one, other) == 1;
                    int days = none ? NEVER : asker.told(parish, law, TAKES, one, other);
                    int place = pair(one, other);
                    through[place] = days;
                    step[place] = parish.isShut(channel) ? NEVER : days;
                    soon[place] = one == other ? 0 : step[place];
                }
            }
            for (int by = 0; by < springs; by++) {
                goBy(by);
            }
        }

        private void goBy(int by) {
            for (int one = 0; one < springs; one++) {
                for (int other = 0; other < springs; other++) {
                    int days = soon[pair(one, by)] + soon[pair(by, other)];
                    if (days < soon[pair(one, other)]) {
                        soon[pair(one, other)] = days;
                    }
                }
            }
        }

        int daysThrough(int one, int other) {
            return has(one) && has(other) ? through[pair(one, other)] : NEVER;
        }

        boolean isShut(int one, int other) {
            return has(one) && has(other) && through[pair(one, other)] != step[pair(one, other)];
        }

        int soonest(int from, int to) {
            int days = has(from) && has(to) ? soon[pair(from, to)] : NEVER;
            return days < NEVER ? days : NONE;
        }

        int onWay(int from, int to, int i) {
            if (i < 0 || i >= MOST_SPRINGS || soonest(from, to) == NONE) {
                return NONE;
            }
            int spring = from;
            for (int place = 0; place < i; place++) {
                spring = nextOnWay(spring, to);
            }
            return spring;
        }

        /** The lowest by which nothing is lost; NONE behind the end. */
        private int nextOnWay(int spring, int to) {
            if (!has(spring) || !has(to) || spring == to) {
                return NONE;
            }
            for (int by = 0; by < springs; by++) {
                if (step[pair(spring, by)] + soon[pair(by, to)] == soon[pair(spring, to)]) {
                    return by;
                }
            }
            return NONE;
        }

        int unreached(int from) {
            if (!has(from)) {
                return NONE;
            }
            int set = 0;
            for (int to = 0; to < springs; to++) {
                if (soonest(from, to) == NONE) {
                    set |= 1 << to;
                }
            }
            return set;
        }

        /** On which day it has come to all; NEVER: it does not. */
        int lastDay(int from) {
            int last = 0;
            for (int to = 0; has(from) && to < springs; to++) {
                int days = soon[pair(from, to)];
                last = days > last ? days : last;
            }
            return last;
        }

        int middle() {
            int best = NONE;
            int fewest = NEVER;
            for (int spring = 0; spring < springs; spring++) {
                int last = lastDay(spring);
                if (last < fewest) {
                    best = spring;
                    fewest = last;
                }
            }
            return best;
        }

        int nearestOf(int set, int to) {
            int best = NONE;
            int fewest = NEVER;
            for (int from = 0; has(to) && from < springs; from++) {
                int days = soon[pair(from, to)];
                if ((set >> from & 1) == 1 && days < fewest) {
                    best = from;
                    fewest = days;
                }
            }
            return best;
        }

        void fillCuts(Parish parish, Asker asker) {
            take(parish);
            Text law = parish.lawInForce();
            for (int one = 0; one < springs; one++) {
                for (int other = 0; other < springs; other++) {
                    int channel = parish.pairOf(one, other);
                    boolean none = parish.farOf(channel) == 0 || parish.isShut(channel);
                    cut[pair(one, other)] = none ? 0 : asker.told(parish, law, WEIGHS, one, other);
                }
            }
        }

        int cutOf(int set) {
            int together = 0;
            for (int one = 0; one < springs; one++) {
                for (int other = 0; other < springs; other++) {
                    if ((set >> one & 1) == 1 && (set >> other & 1) == 0) {
                        together += cut[pair(one, other)];
                    }
                }
            }
            return together;
        }

        int lightestSet(int p, int q) {
            int best = NONE;
            int least = NEVER;
            for (int set = 0; set < 1 << springs; set++) {
                if ((set >> p & 1) == 1 && (set >> q & 1) == 0) {
                    int together = cutOf(set);
                    if (together < least) {
                        best = set;
                        least = together;
                    }
                }
            }
            return best;
        }
    }

    /** A round of told springs, by what is left to go from each of them when a set of them was come to. */
    private static final class Rounds {
        private static final int MOST_STOPS = MOST_SPRINGS - 1;

        private final int[] stops = new int[MOST_STOPS];
        private int count = 0;
        /** How soon it comes to a stop from where the round begins. */
        private final int[] out = new int[MOST_STOPS];
        private final int[] soon = new int[MOST_STOPS * MOST_STOPS];
        private final int[] left = new int[MOST_STOPS << MOST_STOPS];

        void plan(Paper paper, int home, int set) {
            count = 0;
            for (int spring = 0; spring < paper.springs && count < MOST_STOPS; spring++) {
                if (spring != home && (set >> spring & 1) == 1) {
                    stops[count] = spring;
                    count++;
                }
            }
            int all = (1 << count) - 1;
            for (int stop = 0; stop < count; stop++) {
                out[stop] = daysOf(paper, home, stops[stop]);
                left[all * MOST_STOPS + stop] = daysOf(paper, stops[stop], home);
                for (int other = 0; other < count; other++) {
                    soon[stop * MOST_STOPS + other] = daysOf(paper, stops[stop], stops[other]);
                }
            }
            for (int been = all - 1; been > 0; been--) {
                for (int stop = 0; stop < count; stop++) {
                    left[been * MOST_STOPS + stop] = fewestBehind(been, stop);
                }
            }
        }

        private static int daysOf(Paper paper, int from, int to) {
            int days = paper.soonest(from, to);
            return days == NONE ? NEVER : days;
        }

        /** All that is still to be gone, if a stop is the next one behind another one (NONE: behind home). */
        private int daysBy(int been, int stop, int by) {
            int days = stop == NONE ? out[by] : soon[stop * MOST_STOPS + by];
            return days + left[(been | 1 << by) * MOST_STOPS + by];
        }

        private int fewestBehind(int been, int stop) {
            int fewest = NEVER;
            for (int by = 0; by < count; by++) {
                if ((been >> by & 1) == 0) {
                    int days = daysBy(been, stop, by);
                    fewest = days < fewest ? days : fewest;
                }
            }
            return fewest;
        }

        int days() {
            if (count == 0) {
                return 0;
            }
            int fewest = fewestBehind(0, NONE);
            return fewest < NEVER ? fewest : NONE;
        }

        /** The i-th stop: each time the lowest by which nothing is lost. */
        int stop(int i) {
            if (i < 0 || i >= count || days() == NONE) {
                return NONE;
            }
            int been = 0;
            int stop = NONE;
            for (int place = 0; place <= i; place++) {
                stop = nextStop(been, stop);
                if (stop == NONE) {
                    return NONE;
                }
                been |= 1 << stop;
            }
            return stop == NONE ? NONE : stops[stop];
        }

        private int nextStop(int been, int stop) {
            int due = fewestBehind(been, stop);
            for (int by = 0; by < count; by++) {
                if ((been >> by & 1) == 0 && daysBy(been, stop, by) == due) {
                    return by;
                }
            }
            return NONE;
        }
    }

    /** The way to the sea, by how many shut channels may still be gone through. */
    private static final class Outlet {
        private final int[] left = new int[(MOST_GATES + 1) * MOST_SPRINGS];
        private int gates = 0;

        void fill(Paper paper, int k) {
            gates = k < MOST_GATES ? k : MOST_GATES;
            Arrays.fill(left, NEVER);
            for (int gate = 0; gate <= gates; gate++) {
                left[gate * MOST_SPRINGS] = 0;
                for (int time = 0; time < MOST_SPRINGS; time++) {
                    shorten(paper, gate);
                }
            }
        }

        private void shorten(Paper paper, int gate) {
            for (int spring = 0; spring < MOST_SPRINGS; spring++) {
                for (int by = 0; by < MOST_SPRINGS; by++) {
                    int days = daysBy(paper, spring, by, gate);
                    if (days < left[gate * MOST_SPRINGS + spring]) {
                        left[gate * MOST_SPRINGS + spring] = days;
                    }
                }
            }
        }

        private int leftFrom(int spring, int gate) {
            int place = gate * MOST_SPRINGS + spring;
            return gate >= 0 && place >= 0 && place < left.length ? left[place] : NEVER;
        }

        /** How many days are left from a spring, if it is gone by another one next. */
        private int daysBy(Paper paper, int spring, int by, int gate) {
            int behind = paper.isShut(spring, by) ? gate - 1 : gate;
            return paper.daysThrough(spring, by) + leftFrom(by, behind);
        }

        int days(int from) {
            int days = leftFrom(from, gates);
            return days < NEVER ? days : NONE;
        }

        int onWay(Paper paper, int from, int i) {
            if (i < 0 || i >= MOST_SPRINGS || days(from) == NONE) {
                return NONE;
            }
            int spring = from;
            int gate = gates;
            for (int place = 0; place < i; place++) {
                int by = nextOnWay(paper, spring, gate);
                if (by == NONE) {
                    return NONE;
                }
                gate = paper.isShut(spring, by) ? gate - 1 : gate;
                spring = by;
            }
            return spring;
        }

        /** The lowest by which nothing is lost; NONE behind the sea. */
        private int nextOnWay(Paper paper, int spring, int gate) {
            if (spring == 0) {
                return NONE;
            }
            for (int by = 0; by < MOST_SPRINGS; by++) {
                if (daysBy(paper, spring, by, gate) == leftFrom(spring, gate)) {
                    return by;
                }
            }
            return NONE;
        }
    }

    /** From where a word that was heard can have come. */
    private static final class Rumour {
        /** The day on which it began at a spring; NONE: it can't have. */
        private final int[] starts = new int[MOST_SPRINGS];
        private int springs = 0;

        void fill(Paper paper, Parish parish) {
            springs = paper.springs;
            for (int spring = 0; spring < springs; spring++) {
                starts[spring] = startBy(paper, parish, spring);
            }
        }

        /** If nothing was heard it began on day 0. */
        private static int startBy(Paper paper, Parish parish, int spring) {
            int start = NONE;
            for (int place = 0; place < parish.heard && place < MOST_HEARD; place++) {
                int days = paper.soonest(spring, parish.heardAt[place]);
                int day = parish.heardOn[place] - days;
                if (days == NONE || day < 0 || start != NONE && start != day) {
                    return NONE;
                }
                start = day;
            }
            return start == NONE ? 0 : start;
        }

        int origins() {
            int set = 0;
            for (int spring = 0; spring < springs; spring++) {
                if (starts[spring] != NONE) {
                    set |= 1 << spring;
                }
            }
            return set;
        }

        int startAt(int spring) {
            return spring >= 0 && spring < springs ? starts[spring] : NONE;
        }

        int bestEar(Paper paper) {
            int best = NONE;
            int fewest = NEVER;
            for (int ear = 0; ear < springs; ear++) {
                int most = leftAt(paper, ear);
                if (most > 0 && most < fewest) {
                    best = ear;
                    fewest = most;
                }
            }
            return best;
        }

        /** From how many springs at most it comes to the ear on one and the same day, or never. */
        int leftAt(Paper paper, int ear) {
            int most = 0;
            for (int one = 0; one < springs; one++) {
                int alike = 0;
                for (int other = 0; starts[one] != NONE && other < springs; other++) {
                    if (starts[other] != NONE && comes(paper, one, ear) == comes(paper, other, ear)) {
                        alike++;
                    }
                }
                most = alike > most ? alike : most;
            }
            return most;
        }

        private int comes(Paper paper, int origin, int ear) {
            int days = paper.soonest(origin, ear);
            return days == NONE ? NONE : starts[origin] + days;
        }
    }
}
