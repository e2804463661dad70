import java.util.Random;

/** Draws TEXTS of both languages: most can be read, some have a TOKEN too many, too few or a wrong one. */
final class Texts {
    private static final String[] LAW_WORDS =
            {"good", "base", "keep", "given", "giver", "to", "year", "herald", "mood"};
    private static final String[] STRAY = {"worth", "give", "if", ";", "(", ")", "[", "]", "or", "not", "+", "<",
        "1001", "1000", "wait", "times", "to", "x", "!", "A", "grain", "holder", "16", "6", "owed 5", "\u00e9"};
    private final Random random;
    private final boolean law;
    private final StringBuilder out = new StringBuilder();

    private Texts(Random random, boolean law) {
        this.random = random;
        this.law = law;
    }

    static String law(Random random) {
        return new Texts(random, true).draw();
    }

    static String orders(Random random) {
        return new Texts(random, false).draw();
    }

    private int n(int bound) {
        return random.nextInt(bound);
    }

    private String draw() {
        int clauses = n(15) == 0 ? 11 + n(4) : 1 + n(4);
        for (int i = 0; i < clauses; i++) {
            if (i > 0) {
                put(";");
            }
            clause();
        }
        String text = out.toString();
        if (n(8) == 0) {
            int at = n(text.length() + 1);
            int to = Math.min(text.length(), at + n(4));
            text = text.substring(0, at) + (n(2) == 0 ? STRAY[n(STRAY.length)] : "") + text.substring(to);
        }
        return text.length() > 400 ? text.substring(0, 400) : text;
    }

    private void put(String token) {
        boolean letters = out.length() > 0 && isPlain(out.charAt(out.length() - 1)) && isPlain(token.charAt(0));
        for (int blanks = n(6) == 0 ? 1 + n(3) : letters ? 1 : 0; blanks > 0; blanks--) {
            out.append(' ');
        }
        out.append(token);
    }

    private static boolean isPlain(char sign) {
        return sign >= 'a' && sign <= 'z' || sign >= '0' && sign <= '9';
    }

    private void clause() {
        if (law) {
            int kind = n(5);
            put(kind < 2 ? "worth" : kind < 4 ? "keeps" : "bars");
            if (kind < 4) {
                sum(0);
            } else {
                put("if");
                test(0);
                return;
            }
        } else {
            if (n(3) == 0) {
                put("wait");
            } else {
                put("give");
                number(16);
                put("to");
                number(6);
            }
            if (n(4) == 0) {
                put("times");
                put("" + (n(9) == 0 ? 17 + n(6) : 1 + n(4)));
            }
        }
        if (n(2) == 0) {
            put("if");
            test(0);
        }
    }

    /** A GOOD or a LORD that may well be there, or any SUM. */
    private void number(int bound) {
        int kind = n(8);
        if (kind < 5) {
            put("" + n(Math.min(bound, 6)));
        } else if (kind < 6) {
            put("[");
            sum(1);
            put("]");
            put("%");
            put("" + n(5));
        } else if (kind < 7 && bound == 6) {
            put("[");
            put("holder");
            put("" + n(6));
            put("+");
            put("1");
            put("]");
            put("%");
            put("3");
        } else {
            sum(0);
        }
    }

    private void test(int depth) {
        plain(depth);
        while (n(4) == 0) {
            put(n(2) == 0 ? "or" : "and");
            plain(depth);
        }
    }

    private void plain(int depth) {
        while (n(6) == 0) {
            put("not");
        }
        if (n(40) == 0 && depth < 3) {
            int deep = 1 + n(9);
            for (int i = 0; i < deep; i++) {
                put("(");
            }
            test(deep);
            for (int i = 0; i < deep; i++) {
                put(")");
            }
        } else if (n(depth > 1 ? 12 : 5) == 0) {
            put("(");
            test(depth + 1);
            put(")");
        } else {
            sum(depth + 1);
            put(n(3) == 0 ? "=" : n(2) == 0 ? "<" : ">");
            sum(depth + 1);
        }
    }

    private void sum(int depth) {
        term(depth);
        for (int more = n(60) == 0 ? 30 + n(25) : 0; more > 0; more--) {
            put(n(2) == 0 ? "+" : "-");
            part(9);
        }
        while (n(4) == 0) {
            put(n(2) == 0 ? "+" : "-");
            term(depth);
        }
    }

    private void term(int depth) {
        part(depth);
        while (n(5) == 0) {
            put(n(2) == 0 ? "*" : n(2) == 0 ? "/" : "%");
            part(depth);
        }
    }

    private void part(int depth) {
        int kind = n(10);
        if (kind == 0 && n(30) == 0) {
            int deep = 1 + n(9);
            for (int i = 0; i < deep; i++) {
                put("[");
            }
            sum(deep);
            for (int i = 0; i < deep; i++) {
                put("]");
            }
        } else if (kind == 0 && n(depth + 1) < 2) {
            put("[");
            sum(depth + 1);
            put("]");
        } else if (kind < 5) {
            put("" + (n(3) == 0 ? n(1002) : n(8)));
        } else if (law) {
            put(LAW_WORDS[n(LAW_WORDS.length)]);
        } else {
            orderWord();
        }
    }

    private void orderWord() {
        switch (n(7)) {
            case 0: put("year"); break;
            case 1: put("goods"); break;
            case 2: put("done"); break;
            case 3: put("last"); break;
            case 4: put("grain"); put("" + n(n(9) == 0 ? 7 : 4)); break;
            case 5: put("holder"); put("" + n(n(9) == 0 ? 17 : 5)); break;
            default: put("owed"); put("" + n(n(9) == 0 ? 7 : 4)); break;
        }
    }
}
