import java.util.Random;

/** Makes texts by chance: most are as the document tells, others have something wrong somewhere. */
final class TextMaker {
    private static final String[] PIECES = {"price", "hold", "or", "and", "not", "kind", "width", "week", "rent", "words",
        "paid", "(", ")", ";", "+", "-", "*", "<", "=", "1", "0", "9999", "12345", " ", "\n", "x", ">", "not (", "- (", "#"};
    private static final String[] NAMES = {"kind", "width", "week", "rent", "words", "paid"};

    private final Random random;
    private final StringBuilder out = new StringBuilder();

    TextMaker(Random random) {
        this.random = random;
    }

    String text() {
        put("price");
        either(3);
        put(";");
        put("hold");
        either(3);
        put(";");
        int wrongs = random.nextInt(3) == 0 ? 1 + random.nextInt(2) : 0;
        for (int i = 0; i < wrongs; i++) {
            spoil();
        }
        return out.length() > 160 ? out.substring(0, 160) : out.toString();
    }

    private void spoil() {
        int at = random.nextInt(out.length() + 1);
        int till = Math.min(out.length(), at + random.nextInt(4));
        out.replace(at, till, random.nextInt(3) == 0 ? "" : PIECES[random.nextInt(PIECES.length)]);
        if (out.length() == 0) {
            out.append(' ');
        }
    }

    private void put(String token) {
        boolean apart = out.length() > 0 && Character.isLetterOrDigit(out.charAt(out.length() - 1));
        if (apart || random.nextInt(6) == 0) {
            out.append(random.nextInt(5) == 0 ? '\n' : ' ');
        }
        out.append(token);
    }

    private boolean again() {
        return random.nextInt(4) == 0 && out.length() < 130;
    }

    private void either(int depth) {
        do {
            both(depth);
        } while (again() && join("or"));
    }

    private void both(int depth) {
        do {
            negation(depth);
        } while (again() && join("and"));
    }

    private boolean join(String sign) {
        put(sign);
        return true;
    }

    private void negation(int depth) {
        if (random.nextInt(5) == 0) {
            put("not");
            negation(depth);
            return;
        }
        sum(depth);
        if (random.nextInt(3) == 0) {
            put(random.nextBoolean() ? "<" : "=");
            sum(depth);
        }
    }

    private void sum(int depth) {
        do {
            term(depth);
        } while (again() && join(random.nextBoolean() ? "+" : "-"));
    }

    private void term(int depth) {
        do {
            one(depth);
        } while (again() && join("*"));
    }

    private void one(int depth) {
        int what = random.nextInt(10);
        if (what == 0) {
            put("-");
            one(depth);
        } else if (what < 4 && depth > 0 && out.length() < 120) {
            put("(");
            either(depth - 1);
            put(")");
        } else if (what < 7) {
            put(NAMES[random.nextInt(NAMES.length)]);
        } else {
            put(String.valueOf(random.nextInt(random.nextBoolean() ? 10 : 10000)));
        }
    }
}
