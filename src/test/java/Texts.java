import java.util.Random;

/** Draws texts of both languages: most stand, some are spoilt by a byte or a token, some go beyond a limit. */
final class Texts {
    private static final String[] LAW_WORDS = {"from", "to", "far", "fall", "mud", "day", "mood"};
    private static final String[] ORDER_WORDS = {"day", "done", "latest", "at", "shut"};
    private static final String[] ALL = {"takes", "weighs", "settles", "bars", "if", "swim", "gate", "stir", "pass",
        "times", "to", "or", "and", "not", "(", ")", "[", "]", "<", ">", "=", "+", "-", "*", "/", "%", ";", "7", "0",
        "1001", "mud", "soon", "day", "x", "A", "\u00e9", "\t", "99999999999999999999"};

    private final Random random;
    private final boolean orders;
    private final int springs;
    private final StringBuilder text = new StringBuilder();

    Texts(Random random, boolean orders, int springs) {
        this.random = random;
        this.orders = orders;
        this.springs = springs;
    }

    String text() {
        int clauses = random.nextInt(15) == 0 ? 10 + random.nextInt(5) : 1 + random.nextInt(4);
        int deep = random.nextInt(6) == 0 ? 5 : random.nextInt(4);
        for (int i = 0; i < clauses; i++) {
            if (i > 0) {
                put(";");
            }
            if (orders) {
                order(deep);
            } else {
                law(deep);
            }
        }
        if (random.nextInt(6) == 0) {
            spoil();
        }
        return text.length() > 400 ? text.substring(0, 400) : text.toString();
    }

    private void put(String token) {
        if (text.length() > 0 && Character.isLetterOrDigit(text.charAt(text.length() - 1))
                && Character.isLetterOrDigit(token.charAt(0)) || random.nextInt(3) == 0) {
            text.append(random.nextInt(6) == 0 ? "  " : " ");
        }
        text.append(token);
    }

    private void spoil() {
        int place = random.nextInt(text.length() + 1);
        switch (random.nextInt(4)) {
            case 0 -> text.setLength(place);
            case 1 -> text.insert(place, " " + ALL[random.nextInt(ALL.length)] + " ");
            case 2 -> text.delete(place, Math.min(text.length(), place + 1 + random.nextInt(3)));
            default -> text.append(random.nextBoolean() ? " ; " : "   ");
        }
    }

    private void law(int deep) {
        int kind = random.nextInt(4);
        put(new String[] {"takes", "weighs", "settles", "bars"}[kind]);
        if (kind < 3) {
            sum(deep);
        }
        if (kind == 3 || random.nextInt(2) == 0) {
            put("if");
            test(deep);
        }
    }

    private void order(int deep) {
        switch (random.nextInt(5)) {
            case 0, 1 -> {
                put("swim");
                spring(deep);
            }
            case 2 -> {
                put("gate");
                spring(deep);
                put("to");
                spring(deep);
            }
            case 3 -> {
                put("stir");
                spring(deep);
                put("to");
                spring(deep);
            }
            default -> put("pass");
        }
        if (random.nextInt(3) == 0) {
            put("times");
            put("" + (random.nextInt(12) == 0 ? random.nextInt(23) : 1 + random.nextInt(3)));
        }
        if (random.nextInt(2) == 0) {
            put("if");
            test(deep);
        }
    }

    /** Mostly one that can be, so that orders run. */
    private void spring(int deep) {
        if (random.nextInt(4) > 0) {
            put("" + random.nextInt(springs));
        } else if (random.nextInt(3) > 0) {
            put("[");
            sum(deep);
            put("]");
            put("%");
            put("" + springs);
        } else {
            sum(deep);
        }
    }

    private void test(int deep) {
        both(deep);
        for (int more = random.nextInt(4) - 2; more > 0; more--) {
            put("or");
            both(deep);
        }
    }

    private void both(int deep) {
        plain(deep);
        for (int more = random.nextInt(4) - 2; more > 0; more--) {
            put("and");
            plain(deep);
        }
    }

    private void plain(int deep) {
        if (random.nextInt(5) == 0) {
            put("not");
            plain(deep);
        } else if (deep > 0 && random.nextInt(4) == 0) {
            int levels = random.nextInt(20) == 0 ? 7 : 1;
            put("(".repeat(levels));
            test(deep - 1);
            put(")".repeat(levels));
        } else {
            sum(deep - 1);
            put(new String[] {"<", ">", "="}[random.nextInt(3)]);
            sum(deep - 1);
        }
    }

    private void sum(int deep) {
        term(deep);
        for (int more = random.nextInt(5) - 2; more > 0; more--) {
            put(random.nextBoolean() ? "+" : "-");
            term(deep);
        }
    }

    private void term(int deep) {
        part(deep);
        for (int more = random.nextInt(6) - 3; more > 0; more--) {
            put(new String[] {"*", "/", "%"}[random.nextInt(3)]);
            part(deep);
        }
    }

    private void part(int deep) {
        if (deep > 0 && random.nextInt(5) == 0) {
            int levels = random.nextInt(20) == 0 ? 7 : 1;
            put("[".repeat(levels));
            sum(deep - 1);
            put("]".repeat(levels));
        } else if (random.nextInt(2) == 0) {
            int kind = random.nextInt(12);
            put("" + (kind == 0 ? 990 + random.nextInt(12) : kind < 3 ? random.nextInt(300) : random.nextInt(10)));
        } else if (!orders) {
            put(LAW_WORDS[random.nextInt(LAW_WORDS.length)]);
        } else if (random.nextInt(3) > 0) {
            put(ORDER_WORDS[random.nextInt(ORDER_WORDS.length)]);
        } else {
            put(random.nextBoolean() ? "mud" : "soon");
            put("" + (random.nextInt(8) == 0 ? random.nextInt(11) : random.nextInt(springs)));
        }
    }
}
