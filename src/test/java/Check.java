import java.nio.charset.StandardCharsets;

/** What the project's tests have in common: telling answers that are not due, and feeding texts. */
final class Check {
    private final String name;
    private int asked = 0;
    private int wrong = 0;

    Check(String name) {
        this.name = name;
    }

    void due(int promise, String call, long got, long want) {
        asked++;
        if (got != want) {
            wrong++;
            System.out.println(name + ", promise " + promise + ": " + call + " answered " + got + ", due is " + want);
        }
    }

    void due(int promise, String call, boolean got, boolean want) {
        due(promise, call, got ? 1 : 0, want ? 1 : 0);
    }

    /** Tells how it went, and ends with exit code 1 if an answer was wrong. */
    void finish() {
        System.out.println(name + ": " + asked + " asked, " + wrong + " wrong");
        if (wrong != 0 || asked == 0) {
            System.exit(1);
        }
    }

    /** The tape is then just the text. */
    static void tape(ItalicsLean lean, String text) {
        tape(lean, text.getBytes(StandardCharsets.ISO_8859_1));
    }

    static void tape(ItalicsLean lean, byte[] bytes) {
        lean.end(0);
        for (int at = 0; at < bytes.length; at += 20) {
            lean.feed(four(bytes, at), four(bytes, at + 4), four(bytes, at + 8), four(bytes, at + 12), four(bytes, at + 16));
        }
        if (lean.end(bytes.length) != bytes.length) {
            throw new IllegalStateException("the text did not go on the tape: " + bytes.length);
        }
    }

    static int four(byte[] bytes, int at) {
        int whole = 0;
        for (int i = at; i < at + 4; i++) {
            whole = whole << 8 | (i < bytes.length ? bytes[i] & 255 : 0);
        }
        return whole;
    }

    static int read(ItalicsLean lean, String text) {
        tape(lean, text);
        return lean.text();
    }

    /** An object with people of these slants, each of weight 1. */
    static ItalicsLean people(int... slants) {
        ItalicsLean lean = new ItalicsLean();
        for (int slant : slants) {
            lean.person(slant, 1);
        }
        return lean;
    }
}
