import java.nio.charset.StandardCharsets;
import java.util.Random;

/** Makes texts by chance: whole ones, and ones that a byte or a token makes faulty. */
final class TextMaker {
    private static final String[] TOKENS = {"leans", "hears", "person", "weight", "rack", "at", "swap", "with", "turn",
        "prop", "free", "year", "step", "to", "seat", "if", "then", "else", "end", "or", "and", "not", "wind", "who",
        "slant", "left", "right", "word", "from", "<=", ">=", "<", ">", "=", "#", "+", "-", "*", "/", "(", ")", ";",
        "0", "1", "5", "9", "19", "9999", "10000", "x", "Leans", "!", "0007"};
    private final Random random;
    private boolean leans = false;
    private int deepest = 0;

    TextMaker(Random random) {
        this.random = random;
    }

    private String pick(String... ones) {
        return ones[random.nextInt(ones.length)];
    }

    byte[] make() {
        byte[] bytes = new byte[0];
        do {
            deepest = random.nextInt(12) == 0 ? 10 : 1 + random.nextInt(8);
            bytes = clauses().getBytes(StandardCharsets.ISO_8859_1);
        } while (bytes.length > 300);
        return bytes;
    }

    private String clauses() {
        StringBuilder text = new StringBuilder();
        boolean hasLeans = random.nextInt(3) == 0;
        boolean hasHears = random.nextInt(3) == 0;
        int many = random.nextInt(30) == 0 ? 20 + random.nextInt(8) : random.nextInt(9);
        for (int i = 0; i < many; i++) {
            text.append(deed()).append(blank());
        }
        if (!hasLeans || random.nextInt(20) == 0) {
            text.insert(0, law("leans"));
        }
        if (!hasHears || random.nextInt(20) == 0) {
            text.append(law("hears"));
        }
        if (random.nextInt(20) == 0) {
            text.append(law("leans"));
        }
        int spoilt = random.nextInt(3) == 0 ? 1 + random.nextInt(2) : 0;
        for (int i = 0; i < spoilt && text.length() > 0; i++) {
            spoil(text);
        }
        return text.toString();
    }

    private void spoil(StringBuilder text) {
        int at = random.nextInt(text.length());
        switch (random.nextInt(5)) {
            case 0 -> text.deleteCharAt(at);
            case 1 -> text.setCharAt(at, (char) random.nextInt(256));
            case 2 -> text.insert(at, " " + pick(TOKENS) + " ");
            case 3 -> text.setLength(at);
            default -> text.insert(at, pick(TOKENS));
        }
    }

    private String blank() {
        return pick("", " ", "\n", "  ");
    }

    private String law(String kind) {
        leans = kind.equals("leans");
        return kind + " " + sum(0) + blank() + ";" + blank();
    }

    private String number(int least, int most) {
        int n = random.nextInt(25) == 0 ? most + 1 : random.nextInt(25) == 0 ? least - 1 : least + random.nextInt(most - least + 1);
        return n < 0 ? "0" : Integer.toString(n);
    }

    private String deed() {
        return switch (random.nextInt(9)) {
            case 0, 1 -> "person " + number(0, 18) + " weight " + number(1, 9) + blank() + ";";
            case 2 -> "rack " + number(0, 18) + " at " + number(0, 4) + ";";
            case 3 -> "swap " + number(0, 2) + " with " + number(0, 2) + ";";
            case 4 -> "turn " + number(1, 3) + ";";
            case 5 -> "prop " + number(0, 2) + ";";
            case 6 -> "free " + number(0, 2) + ";";
            case 7 -> "year " + number(1, 6) + ";";
            default -> "year " + number(1, 60) + ";";
        };
    }

    private String sum(int depth) {
        StringBuilder all = new StringBuilder(product(depth));
        for (int i = random.nextInt(depth + 2) == 0 ? random.nextInt(3) : 0; i > 0; i--) {
            all.append(blank()).append(pick("+", "-")).append(blank()).append(product(depth));
        }
        return all.toString();
    }

    private String product(int depth) {
        StringBuilder all = new StringBuilder(one(depth));
        for (int i = random.nextInt(depth + 2) == 0 ? random.nextInt(3) : 0; i > 0; i--) {
            all.append(blank()).append(pick("*", "/")).append(blank()).append(one(depth));
        }
        return all.toString();
    }

    private String name() {
        if (random.nextInt(60) == 0) {
            return leans ? pick("word", "from") : pick("left", "right");
        }
        return leans ? pick("year", "wind", "weight", "who", "slant", "slant", "left", "right")
                : pick("year", "wind", "weight", "who", "slant", "word", "word", "from");
    }

    private String one(int depth) {
        int which = depth >= deepest ? random.nextInt(4) : random.nextInt(11);
        return switch (which) {
            case 0 -> Integer.toString(random.nextInt(random.nextInt(5) == 0 ? 10010 : 12));
            case 1, 2, 3 -> name();
            case 4, 5 -> "(" + sum(depth + 1) + ")";
            case 6 -> "-" + blank() + one(depth + 1);
            case 7, 8 -> "step " + one(depth + 1) + " to " + one(depth + 1);
            case 9 -> "seat " + one(depth + 1);
            default -> "if " + either(depth + 1) + " then " + sum(depth + 1) + " else " + sum(depth + 1) + " end";
        };
    }

    private String either(int depth) {
        StringBuilder all = new StringBuilder(ask(depth));
        for (int i = random.nextInt(3) == 0 ? 1 + random.nextInt(2) : 0; i > 0; i--) {
            all.append(pick(" or ", " and ")).append(ask(depth));
        }
        return all.toString();
    }

    private String ask(int depth) {
        if (depth < deepest && random.nextInt(4) == 0) {
            return "not " + ask(depth + 1);
        }
        return sum(depth) + blank() + pick("<", "<=", ">", ">=", "=", "#") + blank() + sum(depth);
    }
}
