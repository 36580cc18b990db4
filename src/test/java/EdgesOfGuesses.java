/** Terms IV and promises 31 to 45: what was meant, whom to ask, props, odds, medians, quarrels, whose law. */
final class EdgesOfGuesses {
    private static final int NONE = ItalicsLean.NONE;
    private final Edges doc;

    EdgesOfGuesses(Edges doc) {
        this.doc = doc;
    }

    void all() {
        promise31Heard();
        termsIVMeant();
        promise32Meant();
        termsIVWhoToAsk();
        promise33Listen();
        promise34Bar();
        termsIVProps();
        promise35Props();
        termsIVLikely();
        promise36Likely();
        termsIVFirstStraight();
        promise37First();
        termsIVMedianAndSpread();
        promises38And39();
        termsIVQuarrel();
        promise40Quarrel();
        promise41Said();
        termsIVWhoseLaw();
        promise42Whose();
        termsIVStraightAndSteepest();
        promises43And44();
        termsIVByTheBook();
        promise45Ledger();
    }

    private void promise31Heard() {
        doc.says(31, "HEARD: how many there are (ear NONE: none any more).");
        ItalicsLean x = Check.people(1, 2);
        doc.due("heard(NONE, 0) without any", x.heard(NONE, 0), 0);
        doc.due("heard(0, -999)", x.heard(0, -999), 1);
        doc.due("heard(1, 999)", x.heard(1, 999), 2);
        doc.due("heard(1, 999): the same once more", x.heard(1, 999), 3);
        doc.due("heard(0, 0)", x.heard(0, 0), 4);
        doc.due("heard(0, 0)", x.heard(0, 0), 5);
        doc.due("heard(0, 0)", x.heard(0, 0), 6);
        doc.says(31, "-2 for others (-999 .. 999), or if there are 6.");
        doc.due("heard(0, 0): there are 6", x.heard(0, 0), -2);
        doc.due("about(5)", x.about(5), 6);
        doc.due("heard(NONE, 0) of six", x.heard(NONE, 0), 0);
        doc.due("about(5)", x.about(5), 0);
        doc.due("meant(0, 0): none any more", x.meant(0, 0), 200);
        doc.due("heard(0, -1000)", x.heard(0, -1000), -2);
        doc.due("heard(0, 1000)", x.heard(0, 1000), -2);
        doc.due("heard(2, 0): not there", x.heard(2, 0), -2);
        doc.due("heard(-2, 0)", x.heard(-2, 0), -2);
        for (int wild : Edges.WILD) {
            doc.due("heard(" + wild + ", 0)", x.heard(wild, 0), -2);
            doc.due("heard(0, " + wild + ")", x.heard(0, wild), -2);
        }
        doc.due("about(5)", x.about(5), 0);
        doc.due("heard(0, 0) of nobody", new ItalicsLean().heard(0, 0), -2);
        doc.due("heard(NONE, 0) of nobody", new ItalicsLean().heard(NONE, 0), 0);
    }

    private void termsIVMeant() {
        doc.terms("IV", "MEANT: HEARD (6 at most; told: a PERSON, what it heard):");
        ItalicsLean x = Check.people(0, 0);
        for (int i = 0; i < 6; i++) {
            x.heard(i % 2, 50 + i);
        }
        doc.due("heard: the seventh", x.heard(0, 50), -2);
        doc.due("meant(3, 0): words of 52 and 53, by two", x.meant(3, 0), 4);
        doc.due("meant(2, 0)", x.meant(2, 0), 0);
        doc.terms("IV", "pairs of a speaker and a word 0 .. 99, of which each hears what it heard, out by err at most: "
                + "how many; the lowest speaker, then word.");
        ItalicsLean y = Check.people(0);
        doc.due("meant(0, 0): nothing HEARD", y.meant(0, 0), 100);
        y.heard(0, 0);
        doc.due("meant(0, 0): the word 0", y.meant(0, 0), 1);
        doc.due("meant(0, 1)", y.meant(0, 1), 0);
        doc.due("meant(9, 0): 0 .. 9", y.meant(9, 0), 10);
        y.heard(NONE, 0);
        y.heard(0, 99);
        doc.due("meant(0, 0): the word 99", y.meant(0, 0), 1);
        doc.due("meant(0, 1)", y.meant(0, 1), 99);
        doc.due("meant(9, 0): 90 .. 99", y.meant(9, 0), 10);
        y.heard(NONE, 0);
        y.heard(0, 108);
        doc.due("meant(8, 0): 100 is no word", y.meant(8, 0), 0);
        doc.due("meant(9, 0): out by 9", y.meant(9, 0), 1);
        y.heard(NONE, 0);
        y.heard(0, -9);
        doc.due("meant(8, 0)", y.meant(8, 0), 0);
        doc.due("meant(9, 1)", y.meant(9, 1), 0);
        ItalicsLean z = Check.people(9, 9, 9, 9, 0);
        z.heard(4, 99);
        doc.due("meant(0, 0): whoever speaks", z.meant(0, 0), 5);
        doc.due("meant(0, 1): the lowest speaker", z.meant(0, 1), 90);
        z.heard(NONE, 0);
        z.heard(0, 80);
        doc.due("meant(0, 0)", z.meant(0, 0), 5);
        doc.due("meant(0, 1)", z.meant(0, 1), 80);
        z.heard(4, 89);
        doc.due("meant(0, 0): each hears what it heard", z.meant(0, 0), 5);
        z.heard(4, 90);
        doc.due("meant(0, 0): one doesn't", z.meant(0, 0), 0);
        doc.due("meant(1, 0): out by 1", z.meant(1, 0), 10);
        doc.due("meant(1, 1): then the lowest word", z.meant(1, 1), 80);
        ItalicsLean last = Check.people(0, 0, 0, 0, 9);
        last.by(Check.read(last, "hears if from = 9 then word else 500 end;"));
        last.heard(0, 99);
        doc.due("meant(0, 1): the last speaker, the last word", last.meant(0, 1), 499);
    }

    private void promise32Meant() {
        doc.says(32, "MEANT: 0 how many pairs, 1 100 times the speaker and the word of the lowest.");
        ItalicsLean x = Check.people(1, 2, 3, 4, 5);
        doc.due("meant(0, 0): all", x.meant(0, 0), 500);
        doc.due("meant(0, 1)", x.meant(0, 1), 0);
        x.by(Check.read(x, "hears from * 100 + word;"));
        x.heard(0, 342);
        doc.due("meant(0, 0)", x.meant(0, 0), 1);
        doc.due("meant(0, 1)", x.meant(0, 1), 242);
        doc.says(32, "NONE: none (1), and for others (err 0 .. 9).");
        doc.due("meant(-1, 0)", x.meant(-1, 0), NONE);
        doc.due("meant(10, 0)", x.meant(10, 0), NONE);
        doc.due("meant(9, 0)", x.meant(9, 0), 19);
        doc.due("meant(0, 2)", x.meant(0, 2), NONE);
        doc.due("meant(0, -1)", x.meant(0, -1), NONE);
        for (int wild : Edges.WILD) {
            doc.due("meant(" + wild + ", 0)", x.meant(wild, 0), NONE);
            doc.due("meant(" + wild + ", 1)", x.meant(wild, 1), NONE);
            doc.due("meant(0, " + wild + ")", x.meant(0, wild), NONE);
        }
        x.heard(0, 341);
        doc.due("meant(0, 1): none", x.meant(0, 1), NONE);
        doc.due("meant(0, 0): none", x.meant(0, 0), 0);
        doc.due("meant(0, 0) of nobody", new ItalicsLean().meant(0, 0), 0);
        doc.due("meant(0, 1) of nobody", new ItalicsLean().meant(0, 1), NONE);
    }

    private void termsIVWhoToAsk() {
        doc.terms("IV", "WHO TO ASK: the PERSON by whose hearing (told exactly then) the most pairs that can be left are fewest;");
        ItalicsLean x = Check.people(1, 2, 3);
        x.by(Check.read(x, "hears if who = 0 then word / 50 else if who = 1 then word / 10 else word / 20 end end;"));
        doc.due("listen(0)", x.listen(0), 1);
        x.heard(0, 0);
        doc.due("listen(0): of the first 50", x.listen(0), 1);
        doc.due("listen(9): asked exactly, though out by 9", x.listen(9), 1);
        // The most that can be left counts, not how many answers there are.
        ItalicsLean most = Check.people(1, 2);
        most.by(Check.read(most, "hears if who = 0 then if word < 60 then 0 else word end else word / 50 end;"));
        doc.due("listen(0): 60 or 50 of each can be left", most.listen(0), 1);
        ItalicsLean ends = Check.people(1, 2);
        ends.by(Check.read(ends, "hears if who = 0 then 0 else if word = 0 then -999 else if word = 1 then 999 else word end end end;"));
        doc.due("listen(0): the least and the greatest are heard", ends.listen(0), 1);
        for (int end : new int[] {-999, 999}) {
            ItalicsLean y = Check.people(1, 2);
            y.by(Check.read(y, "hears if who = 0 then if word < 60 then " + end + " else word end "
                    + "else if word = 0 then " + end + " else word / 50 end end;"));
            doc.due("listen(0): each PERSON by itself, of " + end, y.listen(0), 1);
            doc.due("listen(0) again", y.listen(0), 1);
        }
        ItalicsLean two = Check.people(0, 0);
        two.by(Check.read(two, "hears if who = 0 then 7 else word + from + seat 0 end;"));
        two.heard(1, 0);
        doc.due("meant(0, 0): two pairs", two.meant(0, 0), 2);
        doc.due("listen(0): of like ones", two.listen(0), 0);
        ItalicsLean first = Check.people(0, 9);
        first.by(Check.read(first, "hears if who = 0 then 7 else if from = 9 then 500 else word end end;"));
        first.heard(1, 0);
        doc.due("meant(1, 0): two pairs", first.meant(1, 0), 2);
        doc.due("listen(1): both are left, or one", first.listen(1), 1);
        doc.terms("IV", "of like ones the lowest; none (no pair, or one).");
        ItalicsLean alike = Check.people(1, 2, 3, 4, 5);
        doc.due("listen(0): all alike", alike.listen(0), 0);
        ItalicsLean one = Check.people(0);
        one.heard(0, 99);
        doc.due("listen(0): one pair", one.listen(0), NONE);
        doc.due("listen(1): two pairs", one.listen(1), 0);
        one.heard(0, 0);
        doc.due("listen(0): no pair", one.listen(0), NONE);
        doc.due("listen(0) of nobody", new ItalicsLean().listen(0), NONE);
    }

    private void promise33Listen() {
        doc.says(33, "WHO TO ASK: the PERSON.");
        ItalicsLean x = Check.people(1, 2, 3, 4, 5);
        x.by(Check.read(x, "hears if who = 4 then word else 0 end;"));
        doc.due("listen(0)", x.listen(0), 4);
        doc.due("listen(9)", x.listen(9), 4);
        doc.says(33, "NONE: none, and for others.");
        doc.due("listen(-1)", x.listen(-1), NONE);
        doc.due("listen(10)", x.listen(10), NONE);
        for (int wild : Edges.WILD) {
            doc.due("listen(" + wild + ")", x.listen(wild), NONE);
        }
        x.heard(0, 1);
        doc.due("listen(0): none", x.listen(0), NONE);
    }

    private void promise34Bar() {
        doc.says(34, "A SEAT BARRED told: true.");
        ItalicsLean x = Check.people(1, 2, 3);
        doc.due("bar(1, true)", x.bar(1, true), true);
        doc.due("bar(1, true): it is so", x.bar(1, true), true);
        doc.due("props(false)", x.props(false), 5);
        doc.due("bar(1, false)", x.bar(1, false), true);
        doc.due("bar(1, false): it is so", x.bar(1, false), true);
        doc.due("props(false)", x.props(false), 2);
        doc.due("about(3): no STEP", x.about(3), 0);
        doc.says(34, "False for others (0 .. 4, there or not).");
        doc.due("bar(4, true): not there", x.bar(4, true), true);
        doc.due("bar(0, true)", x.bar(0, true), true);
        doc.due("bar(5, true)", x.bar(5, true), false);
        doc.due("bar(-1, true)", x.bar(-1, true), false);
        doc.due("bar(5, false)", x.bar(5, false), false);
        doc.due("bar(33, true)", x.bar(33, true), false);
        for (int wild : Edges.WILD) {
            doc.due("bar(" + wild + ", true)", x.bar(wild, true), false);
        }
        doc.due("props(false): 1 isn't BARRED", x.props(false), 2);
        x.person(4, 1);
        x.person(5, 1);
        doc.due("props(false): 4 was BARRED ahead of being there", x.props(false), 10);
        doc.due("bar(0, true) of nobody", new ItalicsLean().bar(0, true), true);
    }

    private void props(int people, int barred, int want) {
        ItalicsLean x = Check.people(new int[people]);
        for (int i = 0; i < 5; i++) {
            x.bar(i, (barred >> i & 1) != 0);
        }
        String of = " of " + people + ", barred " + barred;
        doc.due("props(false)" + of, x.props(false), want);
        doc.due("props(true)" + of, x.props(true), want == NONE ? NONE : Integer.bitCount(want));
    }

    private void termsIVProps() {
        doc.terms("IV", "PROPS: the fewest SEATS (bits; of those there, none that is BARRED, told) so that each SEAT is propped, "
                + "or one beside it is;");
        props(0, 0, 0);
        props(0, 31, 0);
        props(1, 0, 1);
        props(2, 0, 1);
        props(2, 1, 2);
        props(3, 0, 2);
        props(3, 2, 5);
        props(3, 24, 2);
        props(5, 10, 21);
        props(5, 16, 9);
        ItalicsLean x = Check.people(1, 2, 3);
        x.prop(1, true);
        x.bar(1, true);
        doc.due("props(false): PROPS that are don't count", x.props(false), 5);
        doc.terms("IV", "of like ones the lowest set; no way.");
        props(4, 0, 5);
        props(4, 1, 6);
        props(5, 0, 9);
        props(5, 1, 10);
        props(5, 8, 18);
        props(1, 1, NONE);
        props(2, 3, NONE);
        props(3, 3, NONE);
        props(3, 6, NONE);
        props(5, 3, NONE);
        props(5, 24, NONE);
        props(5, 14, NONE);
        props(5, 31, NONE);
    }

    private void promise35Props() {
        doc.says(35, "PROPS: SEATS (many false; bits), how many (many true).");
        ItalicsLean x = Check.people(1, 2, 3, 4, 5);
        doc.due("props(false)", x.props(false), 9);
        doc.due("props(true)", x.props(true), 2);
        doc.due("props(false) of nobody", new ItalicsLean().props(false), 0);
        doc.due("props(true) of nobody", new ItalicsLean().props(true), 0);
        doc.says(35, "NONE: no way.");
        ItalicsLean one = Check.people(1);
        one.bar(0, true);
        doc.due("props(false)", one.props(false), NONE);
        doc.due("props(true)", one.props(true), NONE);
    }

    private void likely(int from, int n, int to, long upper, long lower) {
        ItalicsLean x = new ItalicsLean();
        String call = "likely(" + from + ", " + n + ", " + to + ", ";
        doc.due(call + "false)", x.likely(from, n, to, false), upper);
        doc.due(call + "true)", x.likely(from, n, to, true), lower);
    }

    private void termsIVLikely() {
        doc.terms("IV", "LIKELY: a SLANT each YEAR is by 1 less, as it is, or 1 more, each alike (beyond -9, 9 it stays): "
                + "how likely it is so much behind n YEARS.");
        likely(0, 0, 0, 1, 1);
        likely(0, 0, 1, 0, 1);
        for (int by = -1; by <= 1; by++) {
            likely(0, 1, by, 1, 3);
        }
        likely(0, 1, 2, 0, 1);
        likely(0, 1, -2, 0, 1);
        likely(0, 2, 0, 1, 3);
        likely(0, 2, 2, 1, 9);
        likely(9, 1, 9, 2, 3);
        likely(9, 1, 8, 1, 3);
        likely(8, 1, 9, 1, 3);
        likely(-9, 1, -9, 2, 3);
        likely(-9, 1, -8, 1, 3);
        likely(9, 2, 9, 5, 9);
        likely(-9, 2, -9, 5, 9);
        likely(-9, 17, 9, 0, 1);
        likely(-9, 18, 9, 1, 387420489);
        likely(9, 18, -9, 1, 387420489);
        likely(9, 20, -9, 251, 3486784401L);
        ItalicsLean x = new ItalicsLean();
        for (int from = -9; from <= 9; from += 9) {
            long all = 0;
            for (int to = -9; to <= 9; to++) {
                all += x.likely(from, 20, to, false) * (3486784401L / x.likely(from, 20, to, true));
            }
            doc.due("all of likely(" + from + ", 20, ..)", all, 3486784401L);
        }
    }

    private void promise36Likely() {
        doc.says(36, "LIKELY: the upper (low false), the lower one (low true).");
        likely(9, 0, 9, 1, 1);
        likely(-9, 0, 9, 0, 1);
        likely(0, 2, 1, 2, 9);
        likely(0, 20, 9, new ItalicsLean().likely(0, 20, -9, false), new ItalicsLean().likely(0, 20, -9, true));
        doc.says(36, "NONE for others (-9 .. 9; n 0 .. 20).");
        int[][] others = {{-10, 5, 0}, {10, 5, 0}, {0, -1, 0}, {0, 21, 0}, {0, 5, -10}, {0, 5, 10}};
        for (int[] other : others) {
            likely(other[0], other[1], other[2], NONE, NONE);
        }
        for (int wild : Edges.WILD) {
            likely(wild, 5, 0, NONE, NONE);
            likely(0, wild, 0, NONE, NONE);
            likely(0, 5, wild, NONE, NONE);
        }
    }

    private void first(int from, int n, long upper, long lower) {
        ItalicsLean x = new ItalicsLean();
        String call = "first(" + from + ", " + n + ", ";
        doc.due(call + "false)", x.first(from, n, false), upper);
        doc.due(call + "true)", x.first(from, n, true), lower);
    }

    private void termsIVFirstStraight() {
        doc.terms("IV", "FIRST STRAIGHT: how likely it is 0 behind just n YEARS, and not ahead of that.");
        first(0, 0, 1, 1);
        first(0, 1, 0, 1);
        first(0, 2, 0, 1);
        first(0, 20, 0, 1);
        first(1, 0, 0, 1);
        first(1, 1, 1, 3);
        first(-1, 1, 1, 3);
        first(1, 2, 1, 9);
        first(-1, 2, 1, 9);
        first(1, 3, 2, 27);
        first(2, 1, 0, 1);
        first(2, 2, 1, 9);
        first(9, 8, 0, 1);
        first(9, 9, 1, 19683);
        first(-9, 9, 1, 19683);
        // One year is stayed in: at 9 in two ways, at 8 .. 1 in one.
        first(9, 10, 10, 59049);
        first(-9, 10, 10, 59049);
    }

    private void promise37First() {
        doc.says(37, "FIRST STRAIGHT: the upper (low false), the lower one (low true).");
        first(3, 3, 1, 27);
        first(3, 4, 1, 27);
        ItalicsLean x = new ItalicsLean();
        for (int from = -9; from <= 9; from++) {
            doc.due("first(" + from + ", 20, false)", x.first(from, 20, false), x.first(-from, 20, false));
            doc.due("first(" + from + ", 20, true)", x.first(from, 20, true), x.first(-from, 20, true));
        }
        doc.says(37, "NONE for others (likewise).");
        first(-10, 5, NONE, NONE);
        first(10, 5, NONE, NONE);
        first(0, -1, NONE, NONE);
        first(0, 21, NONE, NONE);
        first(5, 20, x.first(5, 20, false), x.first(5, 20, true));
        doc.due("first(5, 20, true): it is one of them", x.first(5, 20, true) > 0, true);
        for (int wild : Edges.WILD) {
            first(wild, 5, NONE, NONE);
            first(0, wild, NONE, NONE);
        }
    }

    private void termsIVMedianAndSpread() {
        doc.terms("IV", "MEDIAN: of SLANTS the one in the middle (of two the lower).");
        doc.due("median() of one", Check.people(9).median(), 9);
        doc.due("median() of two", Check.people(9, -9).median(), -9);
        doc.due("median() of two", Check.people(-9, 9).median(), -9);
        doc.due("median() of three", Check.people(9, -9, 1).median(), 1);
        doc.due("median() of four", Check.people(9, 2, -9, 1).median(), 1);
        doc.due("median() of four alike", Check.people(9, 9, 9, 9).median(), 9);
        doc.due("median() of five", Check.people(9, 2, -9, 1, 9).median(), 2);
        doc.due("median() of five", Check.people(-9, -9, -9, 9, 9).median(), -9);
        doc.terms("IV", "SPREAD: the greatest less the least (0 without).");
        doc.due("spread() without", new ItalicsLean().spread(), 0);
        doc.due("spread() of one", Check.people(9).spread(), 0);
        doc.due("spread() of one", Check.people(-9).spread(), 0);
        doc.due("spread() of two", Check.people(-9, 9).spread(), 18);
        doc.due("spread() of five", Check.people(3, 4, 2, 8, 5).spread(), 6);
        doc.due("spread() of those below 0", Check.people(-3, -4).spread(), 1);
    }

    private void promises38And39() {
        doc.says(38, "MEDIAN.");
        ItalicsLean x = Check.people(5, 1, 3);
        doc.due("median()", x.median(), 3);
        x.turn(3);
        doc.due("median(): now", x.median(), -3);
        doc.says(38, "-100 without PEOPLE.");
        doc.due("median()", new ItalicsLean().median(), -100);
        x.back();
        doc.due("median() behind back()", x.median(), -100);
        doc.says(39, "SPREAD.");
        ItalicsLean y = Check.people(5, 1, 3);
        doc.due("spread()", y.spread(), 4);
        y.back();
        doc.due("spread() behind back()", y.spread(), 0);
    }

    private void termsIVQuarrel() {
        doc.terms("IV", "A QUARREL of two: by turns each sets one of both (either) straighter by 1, 2 or 3 "
                + "(a SLANT nearer to 0 by so much, not beyond);");
        boolean[][] wins = new boolean[10][10];
        for (int a = 0; a <= 9; a++) {
            for (int b = 0; b <= 9; b++) {
                for (int by = 1; by <= 3; by++) {
                    wins[a][b] |= by <= a && !wins[a - by][b] || by <= b && !wins[a][b - by];
                }
                int want = wins[a][b] ? 1 : 0;
                doc.due("quarrel of " + a + ", " + b, Check.people(a, b).quarrel(0, 1), want);
                doc.due("quarrel of " + -a + ", " + b, Check.people(-a, b).quarrel(1, 0), want);
                doc.due("quarrel of " + -a + ", " + -b, Check.people(-a, -b).quarrel(0, 1), want);
            }
        }
        doc.terms("IV", "who can't (both stand straight) loses: whether the one who begins wins, both as well as can be.");
        doc.due("quarrel of 0, 0", Check.people(0, 0).quarrel(0, 1), 0);
        doc.due("quarrel of 0, 1", Check.people(0, 1).quarrel(0, 1), 1);
        doc.due("quarrel of 0, 3", Check.people(0, 3).quarrel(0, 1), 1);
        doc.due("quarrel of 0, 4", Check.people(0, 4).quarrel(0, 1), 0);
        doc.due("quarrel of 5, -1", Check.people(5, -1).quarrel(0, 1), 0);
    }

    private void promise40Quarrel() {
        doc.says(40, "A QUARREL: 1 the one who begins wins, 0 the other one does.");
        ItalicsLean x = Check.people(2, 2, 3, 0, 9);
        doc.due("quarrel(0, 1)", x.quarrel(0, 1), 0);
        doc.due("quarrel(0, 2)", x.quarrel(0, 2), 1);
        doc.due("quarrel(4, 3)", x.quarrel(4, 3), 1);
        doc.says(40, "NONE for others (unlike ones).");
        for (int i = 0; i < 5; i++) {
            doc.due("quarrel(" + i + ", " + i + ")", x.quarrel(i, i), NONE);
            doc.due("quarrel(" + i + ", 5)", x.quarrel(i, 5), NONE);
            doc.due("quarrel(-1, " + i + ")", x.quarrel(-1, i), NONE);
        }
        for (int wild : Edges.WILD) {
            doc.due("quarrel(" + wild + ", 0)", x.quarrel(wild, 0), NONE);
            doc.due("quarrel(0, " + wild + ")", x.quarrel(0, wild), NONE);
        }
        doc.due("quarrel(0, 2): not there", Check.people(1, 2).quarrel(0, 2), NONE);
        doc.due("quarrel(2, 0): not there", Check.people(1, 2).quarrel(2, 0), NONE);
        doc.due("quarrel(0, 1) of nobody", new ItalicsLean().quarrel(0, 1), NONE);
    }

    private void promise41Said() {
        doc.says(41, "SAID: how many there are (person NONE: none any more).");
        ItalicsLean x = Check.people(1, 2);
        doc.due("said(NONE, 0) without any", x.said(NONE, 0), 0);
        for (int i = 1; i <= 8; i++) {
            doc.due("said", x.said(i % 2, i % 2 == 0 ? -9 : 9), i);
        }
        doc.says(41, "-2 for others (-9 .. 9), or if there are 8.");
        doc.due("said(0, 0): there are 8", x.said(0, 0), -2);
        doc.due("about(6)", x.about(6), 8);
        doc.due("said(NONE, 0) of eight", x.said(NONE, 0), 0);
        doc.due("about(6)", x.about(6), 0);
        doc.due("said(0, -10)", x.said(0, -10), -2);
        doc.due("said(0, 10)", x.said(0, 10), -2);
        doc.due("said(2, 0): not there", x.said(2, 0), -2);
        doc.due("said(-2, 0)", x.said(-2, 0), -2);
        for (int wild : Edges.WILD) {
            doc.due("said(" + wild + ", 0)", x.said(wild, 0), -2);
            doc.due("said(0, " + wild + ")", x.said(0, wild), -2);
        }
        doc.due("about(6)", x.about(6), 0);
        doc.due("said(0, 0) of nobody", new ItalicsLean().said(0, 0), -2);
        doc.due("said(NONE, 0) of nobody", new ItalicsLean().said(NONE, 0), 0);
    }

    private void termsIVWhoseLaw() {
        doc.terms("IV", "WHOSE LAW (told: SAID, 8 at most: a PERSON, leans -9 .. 9): TEXTS (bits) by whose leans all are so (as now).");
        ItalicsLean x = Check.people(5, -2);
        Check.read(x, "leans 9;");
        Check.read(x, "leans -9;");
        Check.read(x, "leans who;");
        Check.read(x, "leans if year = 0 then 9 else who end;");
        doc.due("whose(): nothing is SAID", x.whose(), 15);
        x.said(0, 9);
        doc.due("whose()", x.whose(), 9);
        x.said(1, 9);
        doc.due("whose()", x.whose(), 9);
        x.said(1, -9);
        doc.due("whose(): none is so", x.whose(), 0);
        x.said(NONE, 0);
        x.said(1, -9);
        doc.due("whose()", x.whose(), 2);
        x.said(NONE, 0);
        x.said(1, 1);
        doc.due("whose(): as now", x.whose(), 4);
        x.year(1);
        doc.due("whose(): as now", x.whose(), 12);
        for (int i = 0; i < 7; i++) {
            x.said(1, 1);
        }
        doc.due("whose() by 8", x.whose(), 12);
        x.said(NONE, 0);
        for (int i = 0; i < 7; i++) {
            x.said(1, 1);
        }
        x.said(1, 2);
        doc.due("whose(): the eighth counts", x.whose(), 0);
    }

    private void promise42Whose() {
        doc.says(42, "WHOSE LAW (bits).");
        ItalicsLean x = Check.people(3);
        doc.due("whose() without TEXTS", x.whose(), 0);
        x.said(0, 2);
        doc.due("whose() without TEXTS", x.whose(), 0);
        Check.read(x, "leans 3;");
        Check.read(x, "leans 2;");
        doc.due("whose()", x.whose(), 2);
        x.by(0);
        doc.due("whose(): whichever rules", x.whose(), 2);
        doc.due("whose() of nobody", new ItalicsLean().whose(), 0);
    }

    private void termsIVStraightAndSteepest() {
        doc.terms("IV", "STRAIGHT: PEOPLE (bits) of SLANT 0.");
        doc.due("straight()", Check.people(0, 1, -1, 9, 0).straight(), 17);
        doc.due("straight() of all", Check.people(0, 0, 0, 0, 0).straight(), 31);
        doc.due("straight() of none", Check.people(1, -1).straight(), 0);
        doc.terms("IV", "STEEPEST: the PERSON whose SLANT is farthest from 0 (not 0); of like ones the lowest; none.");
        doc.due("steepest()", Check.people(0, 1, -2).steepest(), 2);
        doc.due("steepest()", Check.people(1, 2, -1).steepest(), 1);
        doc.due("steepest(): of like ones", Check.people(0, -9, 9).steepest(), 1);
        doc.due("steepest(): of like ones", Check.people(9, -9, 9).steepest(), 0);
        doc.due("steepest(): none", Check.people(0, 0, 0).steepest(), NONE);
        doc.due("steepest(): the last", Check.people(0, 0, 0, 0, 1).steepest(), 4);
    }

    private void promises43And44() {
        doc.says(43, "STRAIGHT (bits).");
        doc.due("straight() of nobody", new ItalicsLean().straight(), 0);
        ItalicsLean x = Check.people(0, 4);
        x.swap(0, 1);
        doc.due("straight(): by PEOPLE", x.straight(), 1);
        doc.says(44, "STEEPEST.");
        doc.due("steepest(): by PEOPLE", x.steepest(), 1);
        doc.says(44, "NONE: none.");
        doc.due("steepest() of nobody", new ItalicsLean().steepest(), NONE);
        doc.due("steepest() of a straight one", Check.people(0).steepest(), NONE);
    }

    private void termsIVByTheBook() {
        doc.terms("IV", "BY THE BOOK: how often a PERSON came to stand straight (NONE: all).");
        ItalicsLean x = Check.people(1, 0, 5);
        x.by(Check.read(x, "leans if who = 2 then 5 else 1 - slant end;"));
        x.year(3);
        doc.due("ledger(0)", x.ledger(0), 2);
        doc.due("ledger(1)", x.ledger(1), 1);
        doc.due("ledger(2)", x.ledger(2), 0);
        doc.due("ledger(NONE)", x.ledger(NONE), 3);
        x.year(60);
        doc.due("ledger(0): as far as the BOOK goes", x.ledger(0), 15);
        doc.due("ledger(1)", x.ledger(1), 15);
        doc.due("ledger(NONE)", x.ledger(NONE), 30);
    }

    private void promise45Ledger() {
        doc.says(45, "BY THE BOOK.");
        ItalicsLean x = Check.people(-1, 2);
        doc.due("ledger(0): empty", x.ledger(0), 0);
        doc.due("ledger(NONE): empty", x.ledger(NONE), 0);
        x.year(1);
        doc.due("ledger(0)", x.ledger(0), 1);
        doc.due("ledger(NONE) of nobody", new ItalicsLean().ledger(NONE), 0);
        doc.says(45, "-2 for others.");
        doc.due("ledger(2): not there", x.ledger(2), -2);
        doc.due("ledger(-2)", x.ledger(-2), -2);
        for (int wild : Edges.WILD) {
            doc.due("ledger(" + wild + ")", x.ledger(wild), -2);
        }
        doc.due("ledger(0) of nobody", new ItalicsLean().ledger(0), -2);
        doc.due("ledger(5) of five", Check.people(1, 1, 1, 1, 1).ledger(5), -2);
    }
}
