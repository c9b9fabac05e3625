/** What the tests share: telling a wrong answer, feeding a text. */
final class Checks {
    private int wrong = 0;
    private int made = 0;

    void due(String call, long got, long want) {
        made++;
        if (got != want) {
            wrong++;
            if (wrong <= 40) {
                System.out.println(call + " answered " + got + ", due is " + want);
            }
        }
    }

    /** The bytes of a text come behind the tape: by twenties, and what is too much is cut off again. */
    static int feed(EelClerk x, String text) {
        int before = x.count(7);
        for (int place = 0; place < text.length(); place += 20) {
            int told = x.feed(four(text, place), four(text, place + 4), four(text, place + 8),
                    four(text, place + 12), four(text, place + 16));
            if (told == EelClerk.NONE) {
                return EelClerk.NONE;
            }
        }
        return x.end(before + text.length());
    }

    static int four(String text, int place) {
        int value = 0;
        for (int i = place; i < place + 4; i++) {
            value = value << 8 | (i < text.length() ? text.charAt(i) & 255 : 0);
        }
        return value;
    }

    static int law(EelClerk x, String text) {
        feed(x, text);
        return x.law();
    }

    static int orders(EelClerk x, String text) {
        feed(x, text);
        return x.orders();
    }

    static int row(EelClerk x, int... bytes) {
        StringBuilder text = new StringBuilder();
        for (int one : bytes) {
            text.append((char) one);
        }
        feed(x, text.toString());
        return x.row();
    }

    boolean allDue() {
        return wrong == 0;
    }

    /** To be called last: exit code 1, if an answer was wrong. */
    void close(String name) {
        System.out.println(name + ": " + made + " answers, " + wrong + " not as due");
        if (wrong != 0) {
            System.exit(1);
        }
    }
}
