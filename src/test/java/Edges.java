import java.io.IOException;
import java.nio.file.Files;
import java.nio.file.Path;
import java.util.ArrayList;
import java.util.LinkedHashMap;
import java.util.List;
import java.util.Map;
import java.util.regex.Matcher;
import java.util.regex.Pattern;

/**
 * The document's sentences, each with the calls that show whether it holds. A sentence is quoted word by word,
 * with the promise or the part of the terms where it stands; at the end the quotes are looked up in the document.
 */
final class Edges {
    /** Numbers that are of none of the document's ranges. */
    static final int[] WILD = {Integer.MIN_VALUE, Integer.MIN_VALUE + 1, -1000000, 1000000,
        Integer.MAX_VALUE - 1, Integer.MAX_VALUE};

    private final Map<String, List<String>> quotes = new LinkedHashMap<>();
    private String part = "";
    private String sentence = "";
    private int askedOfSentence = 1;
    private int asked = 0;
    private int wrong = 0;

    /** What follows is about this sentence of a promise. */
    void says(int promise, String words) {
        begin("promise " + promise, words);
    }

    /** What follows is about this sentence of the terms, I to V. */
    void terms(String number, String words) {
        begin("terms " + number, words);
    }

    /** What follows is about this sentence ahead of the public face. */
    void intro(String words) {
        begin("what it is", words);
    }

    /** What follows is about the constants. */
    void constants(String words) {
        begin("the constants", words);
    }

    private void begin(String where, String words) {
        lookAtLatest();
        part = where;
        sentence = words;
        askedOfSentence = 0;
        quotes.computeIfAbsent(where, key -> new ArrayList<>()).add(words);
    }

    private void lookAtLatest() {
        if (askedOfSentence == 0) {
            complain("nothing is asked of it");
        }
    }

    private void complain(String what) {
        wrong++;
        System.out.println(part + ", \"" + sentence + "\": " + what);
    }

    void due(String call, long got, long want) {
        asked++;
        askedOfSentence++;
        if (got != want) {
            complain(call + " answered " + got + ", due is " + want);
        }
    }

    void due(String call, boolean got, boolean want) {
        due(call, got ? 1 : 0, want ? 1 : 0);
    }

    void same(String what, String got, String want) {
        due(what + " is as due", got.equals(want), true);
        if (!got.equals(want)) {
            System.out.println("  it is  " + got + "\n  due is " + want);
        }
    }

    /** Tells how it went, and ends with exit code 1 if an answer was wrong or a sentence isn't looked at. */
    void finish(Path document) throws IOException {
        lookAtLatest();
        Map<String, String> parts = partsOf(Files.readString(document));
        int sentences = 0;
        for (Map.Entry<String, List<String>> entry : quotes.entrySet()) {
            sentences += entry.getValue().size();
            if (!parts.containsKey(entry.getKey())) {
                wrong++;
                System.out.println("the document has no " + entry.getKey());
            }
        }
        for (Map.Entry<String, String> entry : parts.entrySet()) {
            lookUp(entry.getKey(), entry.getValue());
        }
        System.out.println("EdgesTest: " + sentences + " sentences, " + asked + " asked, " + wrong + " wrong");
        if (wrong != 0 || asked == 0) {
            System.exit(1);
        }
    }

    /** Every quote stands in its part, and nothing of the part is left that no test quotes. */
    private void lookUp(String where, String text) {
        boolean[] quoted = new boolean[text.length()];
        for (String words : quotes.getOrDefault(where, List.of())) {
            int at = text.indexOf(words);
            if (at < 0) {
                wrong++;
                System.out.println(where + " doesn't say \"" + words + "\"");
            }
            for (int i = Math.max(0, at); at >= 0 && i < at + words.length(); i++) {
                quoted[i] = true;
            }
        }
        StringBuilder left = new StringBuilder();
        for (int i = 0; i < text.length(); i++) {
            left.append(quoted[i] ? '|' : text.charAt(i));
        }
        if (Pattern.compile("[A-Za-z0-9]").matcher(left).find()) {
            wrong++;
            System.out.println("no test quotes of " + where + ": " + left.toString().replaceAll("\\|+", " | "));
        }
    }

    /** The parts that tell what is to be: the terms I to V and the promises, white space made plain. */
    private static Map<String, String> partsOf(String document) {
        Map<String, String> parts = new LinkedHashMap<>();
        String whole = document.replaceAll("```text|```", " ").replaceAll("\\s+", " ");
        String intro = between(whole, "==== I. ", "## The public face");
        parts.put("what it is", intro);
        String terms = between(whole, "## Terms", "The constants:");
        String[] numbers = {"I", "II", "III", "IV", "V"};
        for (int i = 0; i < numbers.length; i++) {
            String from = i == 0 ? "" : "==== " + numbers[i] + ". ";
            String to = i == numbers.length - 1 ? "" : "==== " + numbers[i + 1] + ". ";
            int begin = terms.indexOf(from) + from.length();
            int end = to.isEmpty() ? terms.length() : terms.indexOf(to);
            parts.put("terms " + numbers[i], terms.substring(begin, end));
        }
        parts.put("the constants", between(whole, "The constants:", "## Promise 1"));
        Matcher heads = Pattern.compile("## Promise (\\d+): [^`]*`[^`]*`: (.*?)(?= ## )").matcher(whole);
        while (heads.find()) {
            parts.put("promise " + heads.group(1), heads.group(2));
        }
        return parts;
    }

    private static String between(String whole, String from, String to) {
        int begin = whole.indexOf(from) + from.length();
        return whole.substring(begin, whole.indexOf(to, begin));
    }
}
