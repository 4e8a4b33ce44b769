import java.util.Random;

/** Makes TEXTS of one of both languages, most of which can be. */
final class Texts {
    private final Random random;
    private final boolean orders;
    private final StringBuilder out = new StringBuilder();
    private final int depth;

    Texts(Random random, boolean orders) {
        this.random = random;
        this.orders = orders;
        this.depth = random.nextInt(8) == 0 ? 5 : 2;
    }

    String make() {
        int clauses = random.nextInt(12) == 0 ? 11 + random.nextInt(3) : 1 + random.nextInt(4);
        for (int i = 0; i < clauses; i++) {
            if (i > 0) {
                put(";");
            }
            if (orders) {
                order();
            } else {
                law();
            }
        }
        if (random.nextInt(4) == 0) {
            spoil();
        }
        return out.toString();
    }

    private void put(String token) {
        boolean letters = out.length() > 0 && Character.isLetterOrDigit(out.charAt(out.length() - 1));
        if (letters && Character.isLetterOrDigit(token.charAt(0)) || random.nextInt(6) == 0) {
            out.append(random.nextInt(9) == 0 ? "  " : " ");
        }
        out.append(token);
    }

    private void spoil() {
        int at = random.nextInt(out.length() + 1);
        String odd = "abz()[]<>=+-*/%; 059A\t\u00e9~";
        switch (random.nextInt(3)) {
            case 0:
                out.insert(at, odd.charAt(random.nextInt(odd.length())));
                break;
            case 1:
                if (at < out.length()) {
                    out.setCharAt(at, odd.charAt(random.nextInt(odd.length())));
                }
                break;
            default:
                out.delete(at, Math.min(out.length(), at + 1 + random.nextInt(5)));
        }
    }

    private String one(String... of) {
        return of[random.nextInt(of.length)];
    }

    private void law() {
        String verb = one("goes", "burns", "shuns", "bars");
        put(verb);
        if (verb.equals("goes") || verb.equals("burns")) {
            sum(depth);
        }
        if (random.nextInt(4) > 0) {
            put("if");
            test(depth);
        }
    }

    private void order() {
        String verb = one("call", "wet", "walk", "pass", "pass");
        put(verb);
        if (verb.equals("call")) {
            low(5);
            put("by");
            low(4);
        } else if (verb.equals("wet")) {
            low(24);
        } else if (verb.equals("walk")) {
            low(4);
            put("to");
            low(4);
        }
        if (random.nextInt(3) == 0) {
            put("times");
            put("" + (random.nextInt(20) == 0 ? random.nextInt(30) : 1 + random.nextInt(4)));
        }
        if (random.nextInt(3) > 0) {
            put("if");
            test(depth);
        }
    }

    private void low(int high) {
        if (random.nextInt(3) > 0) {
            put("" + random.nextInt(high + 1));
        } else {
            sum(1);
        }
    }

    private void test(int deep) {
        both(deep);
        while (random.nextInt(4) == 0) {
            put("or");
            both(deep);
        }
    }

    private void both(int deep) {
        plain(deep);
        while (random.nextInt(4) == 0) {
            put("and");
            plain(deep);
        }
    }

    private void plain(int deep) {
        while (random.nextInt(6) == 0) {
            put("not");
        }
        if (deep > 0 && random.nextInt(4) == 0) {
            put("(");
            test(deep - 1);
            put(")");
        } else {
            sum(deep - 1);
            put(one("<", ">", "="));
            sum(deep - 1);
        }
    }

    private void sum(int deep) {
        term(deep);
        while (random.nextInt(5) == 0) {
            put(one("+", "-"));
            term(deep);
        }
    }

    private void term(int deep) {
        part(deep);
        while (random.nextInt(5) == 0) {
            put(one("*", "/", "%"));
            part(deep);
        }
    }

    private void part(int deep) {
        if (deep > 0 && random.nextInt(5) == 0) {
            put("[");
            sum(deep - 1);
            put("]");
        } else if (random.nextInt(2) == 0) {
            put("" + (random.nextInt(8) == 0 ? random.nextInt(1010) : random.nextInt(6)));
        } else if (orders) {
            String word = one("minute", "done", "latest", "loose", "heat", "cell");
            put(word);
            if (word.equals("heat") || word.equals("cell")) {
                put("" + (random.nextInt(30) == 0 ? 6 : random.nextInt(6)));
            }
        } else {
            put(one("spark", "heat", "name", "x", "y", "kind", "far", "person", "minute", "mood"));
        }
    }
}
