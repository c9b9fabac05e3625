import java.util.ArrayList;
import java.util.HashSet;
import java.util.List;
import java.util.Map;
import java.util.Set;

/** Both languages a second time: the fault by an Earley reader, the meaning by a tree. */
final class ModelText {
    interface Words {
        int value(String word, int of);
    }

    interface Sum {
        /** null: broken. */
        Long value(Words words);
    }

    static final class Clause {
        String kind;
        List<Sum> sums = new ArrayList<>();
        int times = 1;
        Sum test = null;

        boolean isSo(Words words) {
            if (test == null) {
                return true;
            }
            Long value = test.value(words);
            return value != null && value == 1;
        }
    }

    record Token(String text, int place) {
        boolean isNumber() {
            return !text.isEmpty() && Character.isDigit(text.charAt(0));
        }

        boolean isNumber(int low, int high) {
            if (!isNumber()) {
                return false;
            }
            java.math.BigInteger value = new java.math.BigInteger(text);
            return value.compareTo(java.math.BigInteger.valueOf(low)) >= 0
                    && value.compareTo(java.math.BigInteger.valueOf(high)) <= 0;
        }
    }

    final List<Clause> clauses = new ArrayList<>();

    static List<Token> tokens(String text) {
        List<Token> tokens = new ArrayList<>();
        java.util.regex.Matcher m = java.util.regex.Pattern.compile("[a-z]+|[0-9]+|[^ ]", java.util.regex.Pattern.DOTALL)
                .matcher(text);
        while (m.find()) {
            tokens.add(new Token(m.group(), m.start()));
        }
        return tokens;
    }

    // the grammars: a word of capitals is a name, all else is a token as it stands, or #low-high for a number

    private static final Map<String, String[]> BOTH_RULES = Map.of(
            "TEXT", new String[] {"CLAUSE", "TEXT ; CLAUSE"},
            "TEST", new String[] {"BOTH", "TEST or BOTH"},
            "BOTH", new String[] {"PLAIN", "BOTH and PLAIN"},
            "PLAIN", new String[] {"not PLAIN", "( TEST )", "SUM < SUM", "SUM > SUM", "SUM = SUM"},
            "SUM", new String[] {"TERM", "SUM + TERM", "SUM - TERM"},
            "TERM", new String[] {"PART", "TERM * PART", "TERM / PART", "TERM % PART"});
    private static final Map<String, String[]> LAW_RULES = Map.of(
            "PART", new String[] {"#0-1000", "[ SUM ]", "from", "to", "far", "fall", "mud", "day", "mood"},
            "CLAUSE", new String[] {"HEAD", "HEAD if TEST"},
            "HEAD", new String[] {"takes SUM", "weighs SUM", "settles SUM", "bars"});
    private static final Map<String, String[]> ORDER_RULES = Map.of(
            "PART", new String[] {"#0-1000", "[ SUM ]", "day", "done", "latest", "at", "shut", "mud #0-8", "soon #0-8"},
            "CLAUSE", new String[] {"HEAD", "HEAD if TEST", "HEAD times #1-20", "HEAD times #1-20 if TEST"},
            "HEAD", new String[] {"swim SUM", "gate SUM to SUM", "stir SUM to SUM", "pass"});

    record Item(String name, String rule, int dot, int from) {
        String next() {
            String[] parts = rule.split(" ");
            return dot < parts.length ? parts[dot] : null;
        }

        Item moved() {
            return new Item(name, rule, dot + 1, from);
        }
    }

    private static String[] rules(String name, boolean orders) {
        String[] rules = BOTH_RULES.get(name);
        return rules != null ? rules : (orders ? ORDER_RULES : LAW_RULES).get(name);
    }

    private static boolean fits(String terminal, Token token) {
        if (terminal.startsWith("#")) {
            String[] ends = terminal.substring(1).split("-");
            return token.isNumber(Integer.parseInt(ends[0]), Integer.parseInt(ends[1]));
        }
        return terminal.equals(token.text);
    }

    private static void close(List<Set<Item>> sets, boolean orders) {
        int here = sets.size() - 1;
        List<Item> todo = new ArrayList<>(sets.get(here));
        while (!todo.isEmpty()) {
            Item item = todo.remove(todo.size() - 1);
            List<Item> more = new ArrayList<>();
            if (item.next() == null) {
                for (Item waiting : new ArrayList<>(sets.get(item.from))) {
                    if (item.name.equals(waiting.next())) {
                        more.add(waiting.moved());
                    }
                }
            } else if (rules(item.next(), orders) != null) {
                for (String rule : rules(item.next(), orders)) {
                    more.add(new Item(item.next(), rule, 0, here));
                }
            }
            for (Item one : more) {
                if (sets.get(here).add(one)) {
                    todo.add(one);
                }
            }
        }
    }

    /** Which token can't go on; as many as there are: the end can't; -1: the text stands. */
    private static int grammarFault(List<Token> tokens, boolean orders) {
        List<Set<Item>> sets = new ArrayList<>();
        sets.add(new HashSet<>(Set.of(new Item("ALL", "TEXT", 0, 0))));
        close(sets, orders);
        for (int i = 0; i < tokens.size(); i++) {
            Set<Item> next = new HashSet<>();
            for (Item item : sets.get(i)) {
                if (item.next() != null && rules(item.next(), orders) == null && fits(item.next(), tokens.get(i))) {
                    next.add(item.moved());
                }
            }
            if (next.isEmpty()) {
                return i;
            }
            sets.add(next);
            close(sets, orders);
        }
        return sets.get(tokens.size()).contains(new Item("ALL", "TEXT", 1, 0)) ? -1 : tokens.size();
    }

    /** The first token that is one too many, by looking at the tokens alone. */
    private static int limitFault(List<Token> tokens, boolean orders) {
        int clauses = 1;
        int parts = 0;
        int brackets = 0;
        String words = orders ? " day done latest at shut mud soon " : " from to far fall mud day mood ";
        for (int i = 0; i < tokens.size(); i++) {
            String text = tokens.get(i).text;
            String ahead = i > 0 ? tokens.get(i - 1).text : "";
            if (clauses > 12) {
                return i;
            }
            boolean part = words.contains(" " + text + " ");
            if (tokens.get(i).isNumber()) {
                part = !(orders && (ahead.equals("times") || ahead.equals("mud") || ahead.equals("soon")));
            }
            parts += part ? 1 : 0;
            brackets += "([".contains(text) ? 1 : ")]".contains(text) ? -1 : 0;
            if (parts > 50 && part || brackets > 8) {
                return i;
            }
            clauses += text.equals(";") ? 1 : 0;
        }
        return clauses > 12 ? tokens.size() : Integer.MAX_VALUE;
    }

    static int faultOf(String text, boolean orders) {
        List<Token> tokens = tokens(text);
        int fault = grammarFault(tokens, orders);
        int limit = limitFault(tokens, orders);
        if (fault == -1 && limit == Integer.MAX_VALUE) {
            return -1;
        }
        int first = fault == -1 ? limit : Math.min(fault, limit);
        return first < tokens.size() ? tokens.get(first).place : text.length();
    }

    // the meaning: a text that stands is cut at its loosest token

    static ModelText read(String text, boolean orders) {
        ModelText read = new ModelText();
        List<Token> tokens = tokens(text);
        for (List<Token> part : split(tokens, ";")) {
            read.clauses.add(clause(part));
        }
        return read;
    }

    private static int depthStep(Token token) {
        return "([".contains(token.text) ? 1 : ")]".contains(token.text) ? -1 : 0;
    }

    private static List<List<Token>> split(List<Token> tokens, String at) {
        List<List<Token>> parts = new ArrayList<>();
        parts.add(new ArrayList<>());
        int depth = 0;
        for (Token token : tokens) {
            depth += depthStep(token);
            if (depth == 0 && token.text.equals(at)) {
                parts.add(new ArrayList<>());
            } else {
                parts.get(parts.size() - 1).add(token);
            }
        }
        return parts;
    }

    private static Clause clause(List<Token> tokens) {
        Clause clause = new Clause();
        List<List<Token>> ifs = split(tokens, "if");
        if (ifs.size() > 1) {
            clause.test = test(ifs.get(1));
        }
        List<Token> head = ifs.get(0);
        clause.kind = head.get(0).text;
        boolean orders = List.of("swim", "gate", "stir", "pass").contains(clause.kind);
        head = head.subList(1, head.size());
        if (orders) {
            List<List<Token>> times = split(head, "times");
            if (times.size() > 1) {
                clause.times = Integer.parseInt(times.get(1).get(0).text);
            }
            for (List<Token> sum : split(times.get(0), "to")) {
                if (!sum.isEmpty()) {
                    clause.sums.add(sum(sum));
                }
            }
        } else if (!head.isEmpty()) {
            clause.sums.add(sum(head));
        }
        return clause;
    }

    private static Sum test(List<Token> tokens) {
        List<List<Token>> ors = split(tokens, "or");
        if (ors.size() > 1) {
            return chain(ors.stream().map(ModelText::test).toList(), 1);
        }
        List<List<Token>> ands = split(tokens, "and");
        if (ands.size() > 1) {
            return chain(ands.stream().map(ModelText::test).toList(), 0);
        }
        if (tokens.get(0).text.equals("not")) {
            Sum inner = test(tokens.subList(1, tokens.size()));
            return words -> {
                Long value = inner.value(words);
                return value == null ? null : Long.valueOf(1 - value);
            };
        }
        if (tokens.get(0).text.equals("(")) {
            return test(tokens.subList(1, tokens.size() - 1));
        }
        for (String sign : List.of("<", ">", "=")) {
            List<List<Token>> sides = split(tokens, sign);
            if (sides.size() > 1) {
                Sum left = sum(sides.get(0));
                Sum right = sum(sides.get(1));
                return words -> {
                    Long a = left.value(words);
                    Long b = right.value(words);
                    if (a == null || b == null) {
                        return null;
                    }
                    int order = Long.compare(a, b);
                    return order == (sign.equals("<") ? -1 : sign.equals(">") ? 1 : 0) ? 1L : 0L;
                };
            }
        }
        throw new IllegalStateException("no test: " + tokens);
    }

    /** Asked from the left until one is so (or: 1; and: 0) or broken. */
    private static Sum chain(List<Sum> parts, long ends) {
        return words -> {
            for (Sum part : parts) {
                Long value = part.value(words);
                if (value == null || value == ends) {
                    return value;
                }
            }
            return 1 - ends;
        };
    }

    private static int lastOf(List<Token> tokens, String signs) {
        int depth = 0;
        int last = -1;
        for (int i = 0; i < tokens.size(); i++) {
            depth += depthStep(tokens.get(i));
            if (depth == 0 && signs.contains(tokens.get(i).text)) {
                last = i;
            }
        }
        return last;
    }

    private static Sum sum(List<Token> tokens) {
        int at = lastOf(tokens, "+-");
        at = at < 0 ? lastOf(tokens, "*/%") : at;
        if (at >= 0) {
            Sum left = sum(tokens.subList(0, at));
            Sum right = sum(tokens.subList(at + 1, tokens.size()));
            String sign = tokens.get(at).text;
            return words -> joined(sign, left.value(words), right.value(words));
        }
        Token first = tokens.get(0);
        if (first.text.equals("[")) {
            return sum(tokens.subList(1, tokens.size() - 1));
        }
        if (first.isNumber()) {
            long value = Long.parseLong(first.text);
            return words -> value;
        }
        int of = tokens.size() > 1 ? Integer.parseInt(tokens.get(1).text) : -1;
        return words -> (long) words.value(first.text, of);
    }

    private static Long joined(String sign, Long a, Long b) {
        if (a == null || b == null) {
            return null;
        }
        if (b == 0 && "/%".contains(sign)) {
            return null;
        }
        long value = switch (sign) {
            case "+" -> a + b;
            case "-" -> a - b;
            case "*" -> a * b;
            case "/" -> a / b;
            default -> a - b * (a / b);
        };
        return Math.abs(value) > 1_000_000_000 ? null : Long.valueOf(value);
    }
}
