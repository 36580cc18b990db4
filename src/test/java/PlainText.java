import java.util.ArrayDeque;
import java.util.ArrayList;
import java.util.Deque;
import java.util.List;
import java.util.Set;

/**
 * A text, read in another way than the program does it: by a stack of what is still to come, and
 * with laws as trees. For RandomRunsTest alone.
 */
final class PlainText {
    /** What a law may ask for. */
    interface Asked {
        long name(String name);

        long slantIn(long seat);
    }

    interface Sum {
        long of(Asked asked);
    }

    record Token(String kind, String word, int place) { }

    static final class Fault extends RuntimeException {
        private static final long serialVersionUID = 1;
        final int why;
        final int place;

        Fault(int why, int place) {
            super("fault " + why + " at " + place, null, false, false);
            this.why = why;
            this.place = place;
        }
    }

    private static final Set<String> NAMES =
            Set.of("year", "wind", "weight", "who", "slant", "left", "right", "word", "from");
    private static final Set<String> COMPARISONS = Set.of("<", "<=", ">", ">=", "=", "#");

    final List<String[]> clauses = new ArrayList<>();
    Sum leans = null;
    Sum hears = null;
    private final Deque<String> ahead = new ArrayDeque<>();
    private final Deque<Sum> made = new ArrayDeque<>();
    private final Deque<String> pending = new ArrayDeque<>();
    private final List<String> numbers = new ArrayList<>();
    private String clause = "";
    private int open = 0;

    PlainText(byte[] bytes) {
        ahead.push("TEXT");
        for (Token token : tokens(bytes)) {
            come(token);
        }
    }

    private static List<Token> tokens(byte[] bytes) {
        List<Token> all = new ArrayList<>();
        String text = new String(bytes, java.nio.charset.StandardCharsets.ISO_8859_1);
        java.util.regex.Matcher m = java.util.regex.Pattern
                .compile("[ \\n]|([a-zA-Z]+)|([0-9]+)|(<=|>=|[<>=#+\\-*/();])|(.)", java.util.regex.Pattern.DOTALL)
                .matcher(text);
        while (m.find()) {
            if (m.group(1) != null || m.group(3) != null) {
                all.add(new Token("plain", m.group(), m.start()));
            } else if (m.group(2) != null) {
                all.add(new Token("number", m.group(), m.start()));
            } else if (m.group(4) != null) {
                all.add(new Token("none", "", m.start()));
            }
        }
        all.add(new Token("end", "", bytes.length));
        return all;
    }

    private void expect(String... symbols) {
        for (int i = symbols.length - 1; i >= 0; i--) {
            ahead.push(symbols[i]);
        }
    }

    private void come(Token token) {
        while (!ahead.isEmpty()) {
            String symbol = ahead.pop();
            if (symbol.startsWith("!")) {
                act(symbol.substring(1));
            } else if (symbol.startsWith("'")) {
                if (!token.kind().equals("plain") || !token.word().equals(symbol.substring(1))) {
                    throw new Fault(1, token.place());
                }
                return;
            } else if (symbol.startsWith("N")) {
                takeNumber(symbol, token);
                return;
            } else if (symbol.equals("ANY")) {
                return;
            } else {
                grow(symbol, token);
            }
        }
        if (!token.kind().equals("end")) {
            throw new Fault(1, token.place());
        }
    }

    private void takeNumber(String symbol, Token token) {
        String[] bounds = symbol.split(":");
        if (!token.kind().equals("number")) {
            throw new Fault(1, token.place());
        }
        java.math.BigInteger n = new java.math.BigInteger(token.word());
        if (n.compareTo(new java.math.BigInteger(bounds[1])) < 0 || n.compareTo(new java.math.BigInteger(bounds[2])) > 0) {
            throw new Fault(2, token.place());
        }
        numbers.add(n.toString());
    }

    private void opening(Token token) {
        if (open == 8) {
            throw new Fault(3, token.place());
        }
        open++;
    }

    private void grow(String symbol, Token token) {
        String word = token.kind().equals("plain") ? token.word() : "";
        switch (symbol) {
            case "TEXT" -> {
                if (!token.kind().equals("end")) {
                    expect("CLAUSE", "TEXT");
                }
            }
            case "CLAUSE" -> growClause(word, token);
            case "SUM" -> expect("PRODUCT", "SUMS");
            case "SUMS" -> {
                if (word.equals("+") || word.equals("-")) {
                    expect("ANY", "PRODUCT", "!" + word, "SUMS");
                }
            }
            case "PRODUCT" -> expect("ONE", "PRODUCTS");
            case "PRODUCTS" -> {
                if (word.equals("*") || word.equals("/")) {
                    expect("ANY", "ONE", "!" + word, "PRODUCTS");
                }
            }
            case "EITHER" -> expect("BOTH", "EITHERS");
            case "EITHERS" -> {
                if (word.equals("or")) {
                    expect("ANY", "BOTH", "!or", "EITHERS");
                }
            }
            case "BOTH" -> expect("ASK", "BOTHS");
            case "BOTHS" -> {
                if (word.equals("and")) {
                    expect("ANY", "ASK", "!and", "BOTHS");
                }
            }
            case "ASK" -> {
                if (word.equals("not")) {
                    opening(token);
                    expect("ANY", "ASK", "!not", "!close");
                } else {
                    expect("SUM", "COMPARISON", "SUM", "!compare");
                }
            }
            case "COMPARISON" -> {
                if (!COMPARISONS.contains(word)) {
                    throw new Fault(1, token.place());
                }
                pending.push(word);
                expect("ANY");
            }
            case "ONE" -> growOne(word, token);
            default -> throw new IllegalStateException(symbol);
        }
    }

    private void growClause(String word, Token token) {
        numbers.clear();
        switch (word) {
            case "leans", "hears" -> {
                if ((word.equals("leans") ? leans : hears) != null) {
                    throw new Fault(4, token.place());
                }
                expect("ANY", "SUM", "';", "!law");
            }
            case "person" -> expect("ANY", "N:0:18", "'weight", "N:1:9", "';", "!deed");
            case "rack" -> expect("ANY", "N:0:18", "'at", "N:0:4", "';", "!deed");
            case "swap" -> expect("ANY", "N:0:4", "'with", "N:0:4", "';", "!deed");
            case "turn" -> expect("ANY", "N:1:5", "';", "!deed");
            case "prop", "free" -> expect("ANY", "N:0:4", "';", "!deed");
            case "year" -> expect("ANY", "N:1:60", "';", "!deed");
            default -> throw new Fault(1, token.place());
        }
        if (clauses.size() == 24) {
            throw new Fault(6, token.place());
        }
        clause = word;
    }

    private void growOne(String word, Token token) {
        if (token.kind().equals("number")) {
            expect("N:0:9999", "!number");
            return;
        }
        switch (word) {
            case "(" -> {
                opening(token);
                expect("ANY", "SUM", "')", "!close");
            }
            case "-" -> {
                opening(token);
                expect("ANY", "ONE", "!negative", "!close");
            }
            case "step" -> {
                opening(token);
                expect("ANY", "ONE", "'to", "ONE", "!step", "!close");
            }
            case "seat" -> {
                opening(token);
                expect("ANY", "ONE", "!seat", "!close");
            }
            case "if" -> {
                opening(token);
                expect("ANY", "EITHER", "'then", "SUM", "'else", "SUM", "'end", "!if", "!close");
            }
            default -> {
                if (!NAMES.contains(word)) {
                    throw new Fault(1, token.place());
                }
                Set<String> others = clause.equals("leans") ? Set.of("word", "from") : Set.of("left", "right");
                if (others.contains(word)) {
                    throw new Fault(5, token.place());
                }
                made.push(asked -> asked.name(word));
                expect("ANY");
            }
        }
    }

    private static long cut(long n) {
        return Math.max(-1000000, Math.min(1000000, n));
    }

    private void act(String what) {
        switch (what) {
            case "close" -> open--;
            case "number" -> {
                long n = Long.parseLong(numbers.get(numbers.size() - 1));
                made.push(asked -> n);
            }
            case "law" -> {
                if (clause.equals("leans")) {
                    leans = made.pop();
                } else {
                    hears = made.pop();
                }
                clauses.add(new String[] {clause});
            }
            case "deed" -> {
                List<String> deed = new ArrayList<>(List.of(clause));
                deed.addAll(numbers);
                clauses.add(deed.toArray(new String[0]));
            }
            case "negative" -> {
                Sum one = made.pop();
                made.push(asked -> -one.of(asked));
            }
            case "not" -> {
                Sum one = made.pop();
                made.push(asked -> one.of(asked) == 0 ? 1 : 0);
            }
            case "seat" -> {
                Sum one = made.pop();
                made.push(asked -> asked.slantIn(one.of(asked)));
            }
            case "if" -> {
                Sum other = made.pop();
                Sum then = made.pop();
                Sum either = made.pop();
                made.push(asked -> either.of(asked) != 0 ? then.of(asked) : other.of(asked));
            }
            case "compare" -> join(pending.pop());
            default -> join(what);
        }
    }

    private void join(String how) {
        Sum right = made.pop();
        Sum left = made.pop();
        made.push(asked -> joined(how, left.of(asked), right.of(asked)));
    }

    private static long joined(String how, long a, long b) {
        return switch (how) {
            case "+" -> cut(a + b);
            case "-" -> cut(a - b);
            case "*" -> cut(a * b);
            case "/" -> b == 0 ? 0 : cut(a / b);
            case "step" -> a + Long.signum(b - a);
            case "<" -> a < b ? 1 : 0;
            case "<=" -> a <= b ? 1 : 0;
            case ">" -> a > b ? 1 : 0;
            case ">=" -> a >= b ? 1 : 0;
            case "=" -> a == b ? 1 : 0;
            case "#" -> a != b ? 1 : 0;
            case "or" -> a + b > 0 ? 1 : 0;
            case "and" -> a * b > 0 ? 1 : 0;
            default -> throw new IllegalStateException(how);
        };
    }
}
