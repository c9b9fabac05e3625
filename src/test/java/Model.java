import java.util.ArrayList;
import java.util.Arrays;
import java.util.List;

/**
 * The document a second time, by other means than EelClerk's: ways by trying all of them, states by whole copies,
 * texts by an Earley reader and a tree. ModelTest holds the two against one another.
 */
final class Model {
    static final int NONE = -1;

    /** All that an image keeps. */
    static final class State {
        List<int[]> springs = new ArrayList<>();
        int[][] far = new int[9][9];
        boolean[][] shut = new boolean[9][9];
        int at = 0;
        List<int[]> heard = new ArrayList<>();
        int[] terms = {0, 1, 0};
        List<ModelText> laws = new ArrayList<>();
        int force = NONE;

        State copy() {
            State s = new State();
            for (int[] spring : springs) {
                s.springs.add(spring.clone());
            }
            for (int i = 0; i < 9; i++) {
                s.far[i] = far[i].clone();
                s.shut[i] = shut[i].clone();
            }
            s.at = at;
            for (int[] h : heard) {
                s.heard.add(h.clone());
            }
            s.terms = terms.clone();
            s.laws = new ArrayList<>(laws);
            s.force = force;
            return s;
        }

        boolean has(int spring) {
            return spring >= 0 && spring < springs.size();
        }

        int n() {
            return springs.size();
        }
    }

    @SuppressWarnings("serial")
    static final class Refusal extends Exception {
        final int by;

        Refusal(int by) {
            this.by = by;
        }
    }

    interface Call {
        int run() throws Refusal;
    }

    State s = new State();
    State[] images = new State[2];
    List<State> past = new ArrayList<>();
    List<Integer> pastKinds = new ArrayList<>();
    StringBuilder tape = new StringBuilder();
    int fault = NONE;
    int stopped = NONE;
    int bubbles = 0;
    int status = 0;
    int[] refusals = new int[7];
    State drawn = null;

    private int told(Call call) {
        try {
            int told = call.run();
            status = 0;
            return told;
        } catch (Refusal r) {
            status = r.by;
            refusals[-r.by]++;
            return r.by;
        }
    }

    private static void refuse(boolean really, int by) throws Refusal {
        if (really) {
            throw new Refusal(by);
        }
    }

    private void noPast() {
        past.clear();
        pastKinds.clear();
    }

    int spring(int level, int mud) {
        return told(() -> {
            refuse(level < 0 || level > 9 || mud < 0 || mud > 9, -1);
            refuse(s.n() == 9, -5);
            noPast();
            s.springs.add(new int[] {level, mud});
            return s.n() - 1;
        });
    }

    int channel(int one, int other, int far) {
        return told(() -> {
            refuse(far < 0 || far > 50 || one == other, -1);
            refuse(!s.has(one) || !s.has(other), -2);
            noPast();
            int was = s.far[one][other];
            dig(one, other, far);
            return was;
        });
    }

    private void dig(int one, int other, int far) {
        s.far[one][other] = far;
        s.far[other][one] = far;
        s.shut[one][other] = false;
        s.shut[other][one] = false;
    }

    // what a law tells

    private Long lawTells(State s, ModelText law, String kind, int[] words) {
        Long told = null;
        if (law != null) {
            ModelText.Words asks = (word, of) -> words[List.of("from", "to", "far", "fall", "mud", "day", "mood").indexOf(word)];
            for (ModelText.Clause clause : law.clauses) {
                if (clause.kind.equals(kind) && clause.isSo(asks)) {
                    Long value = clause.sums.isEmpty() ? Long.valueOf(1) : clause.sums.get(0).value(asks);
                    if (value != null) {
                        told = value;
                    }
                }
            }
        }
        return told;
    }

    private ModelText inForce(State s) {
        return s.force == NONE ? null : s.laws.get(s.force);
    }

    private int[] channelWords(State s, int one, int other) {
        return new int[] {one, other, s.far[one][other], s.springs.get(one)[0] - s.springs.get(other)[0],
            s.springs.get(other)[1], s.terms[0], s.terms[2]};
    }

    private static int near(Long value, int low, int high, int without) {
        return value == null ? without : (int) Math.max(low, Math.min(high, value));
    }

    private int takes(State s, ModelText law, int one, int other) {
        return near(lawTells(s, law, "takes", channelWords(s, one, other)), 1, 99, s.far[one][other]);
    }

    private int weighs(State s, int one, int other) {
        return near(lawTells(s, inForce(s), "weighs", channelWords(s, one, other)), 0, 99, 1);
    }

    private boolean barred(State s, ModelText law, int one, int other) {
        return lawTells(s, law, "bars", channelWords(s, one, other)) != null;
    }

    private boolean passes(State s, ModelText law, int one, int other) {
        return s.far[one][other] > 0 && !s.shut[one][other] && !barred(s, law, one, other);
    }

    private int settles(State s, int spring) {
        int mud = s.springs.get(spring)[1];
        int[] words = {spring, -1, -1, 0, mud, s.terms[0], s.terms[2]};
        return near(lawTells(s, inForce(s), "settles", words), 0, 9, mud);
    }

    int of(int spring, int what) {
        if (!s.has(spring) || what < 0 || what > 2) {
            return NONE;
        }
        return what == 2 ? settles(s, spring) : s.springs.get(spring)[what];
    }

    int between(int one, int other, int what) {
        if (!s.has(one) || !s.has(other) || one == other || what < 0 || what > 4) {
            return NONE;
        }
        if (what == 0) {
            return s.far[one][other];
        }
        if (what == 1) {
            return s.shut[one][other] ? 1 : 0;
        }
        if (s.far[one][other] == 0) {
            return NONE;
        }
        if (what == 2) {
            return takes(s, inForce(s), one, other);
        }
        return what == 3 ? weighs(s, one, other) : barred(s, inForce(s), one, other) ? 1 : 0;
    }

    int terms(int what, int value) {
        return told(() -> {
            refuse(what < 0 || what > 2, -1);
            refuse(value < 0 || value > new int[] {999, 10, 9}[what], -1);
            noPast();
            int was = s.terms[what];
            s.terms[what] = value;
            return was;
        });
    }

    int feed(int... numbers) {
        if (tape.length() > 380) {
            return NONE;
        }
        for (int number : numbers) {
            for (int i = 0; i < 4; i++) {
                tape.append((char) ((number >>> 8 * (3 - i)) & 0xff));
            }
        }
        return tape.length();
    }

    int end(int n) {
        if (n < 0 || n > tape.length()) {
            return NONE;
        }
        tape.setLength(n);
        return n;
    }

    private String takeTape() {
        String text = tape.toString();
        tape.setLength(0);
        return text;
    }

    int row() {
        return told(() -> {
            refuse(tape.length() == 0, -6);
            noPast();
            String row = takeTape();
            int count = 0;
            bubbles = 0;
            for (int i = 0; i < row.length(); i += 3) {
                if (i + 3 <= row.length() && s.has(row.charAt(i)) && s.has(row.charAt(i + 1))
                        && row.charAt(i) != row.charAt(i + 1) && row.charAt(i + 2) <= 50) {
                    dig(row.charAt(i), row.charAt(i + 1), row.charAt(i + 2));
                    count++;
                } else {
                    bubbles++;
                }
            }
            return count;
        });
    }

    int law() {
        return told(() -> {
            String text = takeTape();
            refuse(s.laws.size() == 6, -5);
            fault = ModelText.faultOf(text, false);
            refuse(fault != NONE, -6);
            s.laws.add(ModelText.read(text, false));
            return s.laws.size() - 1;
        });
    }

    int orders() {
        return told(() -> {
            String text = takeTape();
            fault = ModelText.faultOf(text, true);
            stopped = NONE;
            refuse(fault != NONE, -6);
            State was = s.copy();
            List<State> pastWas = new ArrayList<>(past);
            List<Integer> kindsWas = new ArrayList<>(pastKinds);
            int[] done = {0};
            int[] latest = {NONE};
            ModelText.Words asks = (word, of) -> orderWord(word, of, done[0], latest[0]);
            List<ModelText.Clause> clauses = ModelText.read(text, true).clauses;
            for (int c = 0; c < clauses.size(); c++) {
                for (int time = 0; time < clauses.get(c).times; time++) {
                    try {
                        if (clauses.get(c).isSo(asks)) {
                            order(clauses.get(c), asks, latest);
                            done[0]++;
                        }
                    } catch (Refusal r) {
                        s = was;
                        past = pastWas;
                        pastKinds = kindsWas;
                        stopped = c;
                        throw new Refusal(-3);
                    }
                }
            }
            return done[0];
        });
    }

    private void order(ModelText.Clause clause, ModelText.Words asks, int[] latest) throws Refusal {
        int[] sums = new int[2];
        for (int i = 0; i < clause.sums.size(); i++) {
            Long value = clause.sums.get(i).value(asks);
            refuse(value == null, -3);
            sums[i] = value.intValue();
        }
        switch (clause.kind) {
            case "swim" -> latest[0] = doSwim(sums[0]);
            case "gate" -> doGate(sums[0], sums[1]);
            case "stir" -> doStir(sums[0], sums[1]);
            default -> doPass();
        }
    }

    private int orderWord(String word, int of, int done, int latest) {
        return switch (word) {
            case "day" -> s.terms[0];
            case "done" -> done;
            case "latest" -> latest;
            case "at" -> s.at;
            case "shut" -> count(3);
            case "mud" -> of(of, 1);
            default -> soon(s.at, of);
        };
    }

    int force(int law) {
        return told(() -> {
            refuse(law < -1 || law >= s.laws.size(), -2);
            int was = s.force;
            s.force = law;
            return was;
        });
    }

    private void keep(int kind) {
        past.add(s.copy());
        pastKinds.add(kind);
        if (past.size() > 16) {
            past.remove(0);
            pastKinds.remove(0);
        }
    }

    private int doSwim(int spring) throws Refusal {
        refuse(!s.has(spring), -2);
        refuse(spring == s.at || !passes(s, inForce(s), s.at, spring), -3);
        keep(0);
        int days = takes(s, inForce(s), s.at, spring);
        s.at = spring;
        return days;
    }

    private int doGate(int one, int other) throws Refusal {
        refuse(one == other, -1);
        refuse(!s.has(one) || !s.has(other), -2);
        refuse(s.far[one][other] == 0, -3);
        keep(1);
        boolean shut = !s.shut[one][other];
        s.shut[one][other] = shut;
        s.shut[other][one] = shut;
        return shut ? 1 : 0;
    }

    private int doStir(int spring, int mud) throws Refusal {
        refuse(mud < 0 || mud > 9, -1);
        refuse(!s.has(spring), -2);
        int was = s.springs.get(spring)[1];
        refuse(was == mud, -3);
        keep(2);
        s.springs.get(spring)[1] = mud;
        return was;
    }

    private int doPass() throws Refusal {
        refuse(s.terms[0] == 999, -3);
        keep(3);
        return day(s);
    }

    private int day(State s) {
        State ahead = s.copy();
        int others = 0;
        for (int spring = 0; spring < s.n(); spring++) {
            int mud = settles(ahead, spring);
            others += mud == s.springs.get(spring)[1] ? 0 : 1;
            s.springs.get(spring)[1] = mud;
        }
        s.terms[0]++;
        return others;
    }

    int swim(int spring) {
        return told(() -> doSwim(spring));
    }

    int gate(int one, int other) {
        return told(() -> doGate(one, other));
    }

    int stir(int spring, int mud) {
        return told(() -> doStir(spring, mud));
    }

    int pass() {
        return told(() -> doPass());
    }

    int undo() {
        return told(() -> {
            refuse(past.isEmpty(), -3);
            State was = past.remove(past.size() - 1);
            s.at = was.at;
            s.shut = was.shut;
            s.springs = was.springs;
            s.terms[0] = was.terms[0];
            return pastKinds.remove(pastKinds.size() - 1);
        });
    }

    // ways, by trying all that come to no spring twice

    private static final class Ways {
        int days = Integer.MAX_VALUE;
        List<Integer> row = null;
    }

    /** How long a word takes through each channel that is not barred; 0: none. */
    private int[][] through(ModelText law) {
        int[][] through = new int[9][9];
        for (int a = 0; a < s.n(); a++) {
            for (int b = 0; b < s.n(); b++) {
                if (s.far[a][b] > 0 && !barred(s, law, a, b)) {
                    through[a][b] = takes(s, law, a, b);
                }
            }
        }
        return through;
    }

    private void tryWays(int[][] through, List<Integer> row, int to, int days, int gates, Ways best) {
        int from = row.get(row.size() - 1);
        if (days > best.days) {
            return;
        }
        if (from == to) {
            // rows are tried in their order, so the first of so few days is the one
            if (days < best.days) {
                best.days = days;
                best.row = new ArrayList<>(row);
            }
            return;
        }
        for (int by = 0; by < s.n(); by++) {
            int left = s.shut[from][by] ? gates - 1 : gates;
            if (through[from][by] > 0 && left >= 0 && !row.contains(by)) {
                row.add(by);
                tryWays(through, row, to, days + through[from][by], left, best);
                row.remove(row.size() - 1);
            }
        }
    }

    private Ways ways(ModelText law, int from, int to, int gates) {
        Ways best = new Ways();
        if (s.has(from) && s.has(to)) {
            tryWays(through(law), new ArrayList<>(List.of(from)), to, 0, gates, best);
        }
        return best;
    }

    /** From one spring to all, by going on from all that were come to, day by day. */
    private int[] soonFrom(ModelText law, int from) {
        int[][] through = through(law);
        int[] soon = new int[9];
        Arrays.fill(soon, NONE);
        soon[from] = 0;
        for (int day = 0; day <= 900; day++) {
            for (int a = 0; a < s.n(); a++) {
                for (int b = 0; soon[a] == day && b < s.n(); b++) {
                    if (through[a][b] > 0 && !s.shut[a][b] && (soon[b] == NONE || soon[b] > day + through[a][b])) {
                        soon[b] = day + through[a][b];
                    }
                }
            }
        }
        return soon;
    }

    private int soon(ModelText law, int from, int to) {
        return s.has(from) && s.has(to) ? soonFrom(law, from)[to] : NONE;
    }

    int soon(int from, int to) {
        return soon(inForce(s), from, to);
    }

    private static int place(List<Integer> row, int i) {
        return row == null || i < 0 || i >= row.size() ? NONE : row.get(i);
    }

    int way(int from, int to, int i) {
        return place(ways(inForce(s), from, to, 0).row, i);
    }

    int never(int from) {
        if (!s.has(from)) {
            return NONE;
        }
        int bits = 0;
        for (int to = 0; to < s.n(); to++) {
            bits |= soon(from, to) == NONE ? 1 << to : 0;
        }
        return bits;
    }

    int centre(int what) {
        int centre = NONE;
        int best = Integer.MAX_VALUE;
        for (int from = s.n() - 1; from >= 0; from--) {
            if (never(from) == 0) {
                int last = 0;
                for (int to = 0; to < s.n(); to++) {
                    last = Math.max(last, soon(from, to));
                }
                if (last <= best) {
                    best = last;
                    centre = from;
                }
            }
        }
        return centre == NONE ? NONE : what == 0 ? centre : what == 1 ? best : NONE;
    }

    private boolean sets(int springs) {
        return springs >= 0 && springs < 1 << s.n();
    }

    int round(int springs, int i) {
        if (s.n() == 0 || !sets(springs) || i < -1) {
            return NONE;
        }
        int[][] soon = new int[9][9];
        for (int a = 0; a < s.n(); a++) {
            for (int b = 0; b < s.n(); b++) {
                soon[a][b] = soon(a, b);
            }
        }
        Ways best = new Ways();
        tryRounds(soon, springs & ~(1 << s.at), s.at, new ArrayList<>(), 0, best);
        return best.row == null ? NONE : i == NONE ? best.days : place(best.row, i);
    }

    private void tryRounds(int[][] soon, int left, int from, List<Integer> row, int days, Ways best) {
        if (left == 0) {
            if (soon[from][s.at] != NONE && days + soon[from][s.at] < best.days) {
                best.days = days + soon[from][s.at];
                best.row = new ArrayList<>(row);
            }
            return;
        }
        for (int by = 0; by < 9; by++) {
            if ((left >> by & 1) == 1 && soon[from][by] != NONE) {
                row.add(by);
                tryRounds(soon, left - (1 << by), by, row, days + soon[from][by], best);
                row.remove(row.size() - 1);
            }
        }
    }

    int bound(int p, int q, int what) {
        if (p == q || !s.has(p) || !s.has(q) || what < 0 || what > 1) {
            return NONE;
        }
        int best = Integer.MAX_VALUE;
        int bestSet = NONE;
        for (int set = (1 << s.n()) - 1; set > 0; set--) {
            if ((set >> p & 1) == 0 || (set >> q & 1) == 1) {
                continue;
            }
            int together = 0;
            for (int a = 0; a < s.n(); a++) {
                for (int b = 0; b < a; b++) {
                    boolean in = (set >> a & 1) == 1;
                    if (in != ((set >> b & 1) == 1) && s.far[a][b] > 0 && !s.shut[a][b]) {
                        together += in ? weighs(s, a, b) : weighs(s, b, a);
                    }
                }
            }
            if (together <= best) {
                best = together;
                bestSet = set;
            }
        }
        return what == 0 ? best : bestSet;
    }

    int share(int springs, int spring) {
        if (!sets(springs) || !s.has(spring)) {
            return NONE;
        }
        int best = NONE;
        for (int from = 0; from < s.n(); from++) {
            if ((springs >> from & 1) == 1 && soon(from, spring) != NONE
                    && (best == NONE || soon(from, spring) < soon(best, spring))) {
                best = from;
            }
        }
        return best;
    }

    int sea(int k, int i) {
        if (s.n() == 0 || k < 0 || k > 9 || i < -1) {
            return NONE;
        }
        Ways best = ways(inForce(s), s.at, 0, k);
        return best.row == null ? NONE : i == NONE ? best.days : place(best.row, i);
    }

    int heard(int spring, int day) {
        return told(() -> {
            refuse(day < 0 || day > 999, -1);
            refuse(!s.has(spring), -2);
            refuse(s.heard.size() == 6, -5);
            s.heard.add(new int[] {spring, day});
            return s.heard.size();
        });
    }

    int forget() {
        int was = s.heard.size();
        s.heard.clear();
        return was;
    }

    /** All days on which it could have begun there, tried one by one (if nothing was heard: day 0 alone). */
    private int start(int spring) {
        if (s.heard.isEmpty()) {
            return 0;
        }
        int[] soon = soonFrom(inForce(s), spring);
        for (int day = 0; day <= 999; day++) {
            boolean fits = true;
            for (int[] h : s.heard) {
                fits &= soon[h[0]] != NONE && day + soon[h[0]] == h[1];
            }
            if (fits) {
                return day;
            }
        }
        return NONE;
    }

    int canBe() {
        int bits = 0;
        for (int spring = 0; spring < s.n(); spring++) {
            bits |= start(spring) != NONE ? 1 << spring : 0;
        }
        return bits;
    }

    int since(int spring) {
        return s.heard.isEmpty() || !s.has(spring) ? NONE : start(spring);
    }

    int listen(int what) {
        int best = NONE;
        int bestLeft = 0;
        int[] starts = new int[9];
        int[][] soon = new int[9][];
        for (int from = 0; from < s.n(); from++) {
            starts[from] = start(from);
            soon[from] = soonFrom(inForce(s), from);
        }
        for (int ear = 0; ear < s.n(); ear++) {
            int[] came = new int[4000];
            int most = 0;
            for (int from = 0; from < s.n(); from++) {
                if (starts[from] != NONE) {
                    int day = soon[from][ear] == NONE ? 3999 : starts[from] + soon[from][ear];
                    came[day]++;
                    most = Math.max(most, came[day]);
                }
            }
            if (most > 0 && (best == NONE || most < bestLeft)) {
                best = ear;
                bestLeft = most;
            }
        }
        return best == NONE || what < 0 || what > 1 ? NONE : what == 0 ? best : bestLeft;
    }

    long few(int k, int n) {
        if (k < 1 || k > 20 || n < 0 || n > 99) {
            return NONE;
        }
        long[] parts = new long[120];
        parts[0] = 1_000_000_000_000L;
        for (int string = 0; string < n; string++) {
            long[] next = new long[120];
            for (int slipped = 0; slipped < 110; slipped++) {
                next[slipped] += parts[slipped] * (10 - s.terms[1]) / 10;
                next[slipped + 1] += parts[slipped] * s.terms[1] / 10;
            }
            parts = next;
        }
        return Arrays.stream(parts, 0, k).sum();
    }

    int compare(int law, int from, int to) {
        if (law < -1 || law >= s.laws.size()) {
            return NONE;
        }
        return soon(law == NONE ? null : s.laws.get(law), from, to);
    }

    int years(int seed, int n) {
        return told(() -> {
            refuse(seed < 0 || seed > 1_000_000 || n < 1 || n > 60, -1);
            refuse(s.n() == 0, -3);
            State really = s;
            List<State> pastWas = new ArrayList<>(past);
            List<Integer> kindsWas = new ArrayList<>(pastKinds);
            s = s.copy();
            long[] draw = {seed};
            int swum = 0;
            for (int year = 0; year < n && s.terms[0] < 999; year++) {
                int one = drawOf(draw, s.n());
                int other = drawOf(draw, s.n());
                int mud = drawOf(draw, 10);
                int what = drawOf(draw, 4);
                try {
                    if (what == 0) {
                        doGate(one, other);
                    } else if (what == 1) {
                        doStir(one, mud);
                    } else if (what == 2) {
                        swum += doSwim(one);
                    }
                } catch (Refusal r) {
                    // then it is not done
                }
                day(s);
            }
            drawn = s;
            s = really;
            past = pastWas;
            pastKinds = kindsWas;
            return swum;
        });
    }

    private static int drawOf(long[] draw, int m) {
        draw[0] = (draw[0] * 1103 + 12345) % 1_000_003;
        return (int) (draw[0] % m);
    }

    int drawn(int k, int what) {
        if (drawn == null || !drawn.has(k) || what < 0 || what > 1) {
            return NONE;
        }
        return what == 0 ? drawn.springs.get(k)[1] : drawn.at == k ? 1 : 0;
    }

    int image(int k) {
        return told(() -> {
            refuse(k < 0 || k > 1, -1);
            images[k] = s.copy();
            return 0;
        });
    }

    int back(int k) {
        return told(() -> {
            refuse(k < 0 || k > 1, -1);
            refuse(images[k] == null, -2);
            s = images[k].copy();
            noPast();
            return 0;
        });
    }

    int count(int what) {
        int channels = 0;
        int shut = 0;
        for (int a = 0; a < 9; a++) {
            for (int b = 0; b < a; b++) {
                channels += s.far[a][b] > 0 ? 1 : 0;
                shut += s.shut[a][b] ? 1 : 0;
            }
        }
        int[] all = {s.n(), s.at, channels, shut, s.heard.size(), s.laws.size(), past.size(), tape.length(),
            refusals[1], refusals[2], refusals[3], refusals[5], refusals[6], s.force,
            s.terms[0], s.terms[1], s.terms[2]};
        return what < 0 || what >= all.length ? NONE : all[what];
    }
}
