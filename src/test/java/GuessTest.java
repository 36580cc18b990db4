/** Promises 31 to 48: what was meant, props, odds, medians, quarrels, whose law, the image, numbers. */
final class GuessTest {
    private static final Check check = new Check("GuessTest");

    public static void main(String[] args) {
        heard();
        meant();
        listen();
        bars();
        props();
        likely();
        first();
        medians();
        quarrels();
        said();
        whose();
        straight();
        steepest();
        ledger();
        images();
        imagesAndTexts();
        numbers();
        check.finish();
    }

    private static void heard() {
        ItalicsLean x = Check.people(1, 2);
        check.due(31, "heard(2, 0)", x.heard(2, 0), -2);
        check.due(31, "heard(-2, 0)", x.heard(-2, 0), -2);
        check.due(31, "heard(0, 1000)", x.heard(0, 1000), -2);
        check.due(31, "heard(0, -1000)", x.heard(0, -1000), -2);
        check.due(31, "heard(0, 999)", x.heard(0, 999), 1);
        check.due(31, "heard(1, -999)", x.heard(1, -999), 2);
        for (int i = 3; i <= 6; i++) {
            check.due(31, "heard(1, 5)", x.heard(1, 5), i);
        }
        check.due(31, "heard(1, 5): the seventh", x.heard(1, 5), -2);
        check.due(31, "about(5)", x.about(5), 6);
        check.due(31, "heard(NONE, 5)", x.heard(-1, 5), 0);
        check.due(31, "about(5)", x.about(5), 0);
    }

    private static void meant() {
        ItalicsLean x = Check.people(-3, 4, 0);
        check.due(32, "meant(0, 0): all", x.meant(0, 0), 300);
        check.due(32, "meant(0, 1)", x.meant(0, 1), 0);
        x.heard(1, 50);
        // Who hears the word and from, less 4: words of 57, 50 and 54.
        check.due(32, "meant(0, 0)", x.meant(0, 0), 3);
        check.due(32, "meant(0, 1)", x.meant(0, 1), 57);
        check.due(32, "meant(2, 0)", x.meant(2, 0), 15);
        check.due(32, "meant(2, 1)", x.meant(2, 1), 55);
        check.due(32, "meant(9, 0)", x.meant(9, 0), 57);
        check.due(32, "meant(10, 0)", x.meant(10, 0), -1);
        check.due(32, "meant(-1, 0)", x.meant(-1, 0), -1);
        check.due(32, "meant(0, 2)", x.meant(0, 2), -1);
        check.due(32, "meant(0, -1)", x.meant(0, -1), -1);
        x.heard(0, 58);
        check.due(32, "meant(0, 0): both can't be", x.meant(0, 0), 0);
        check.due(32, "meant(0, 1)", x.meant(0, 1), -1);
        check.due(32, "meant(1, 0)", x.meant(1, 0), 6);
        check.due(32, "meant(1, 1)", x.meant(1, 1), 57);
        ItalicsLean y = Check.people(5, 9);
        y.by(Check.read(y, "hears if from = 9 then word else 500 end;"));
        y.heard(0, 7);
        check.due(32, "meant(0, 1): speaker 1, word 7", y.meant(0, 1), 107);
        check.due(32, "meant(0, 0)", y.meant(0, 0), 1);
        check.due(32, "meant(0, 0) of nobody", new ItalicsLean().meant(0, 0), 0);
        check.due(32, "meant(0, 1) of nobody", new ItalicsLean().meant(0, 1), -1);
    }

    private static void listen() {
        ItalicsLean x = Check.people(1, 2, 3);
        x.by(Check.read(x, "hears if who = 0 then 0 else if who = 1 then word / 50 else word / 10 end end;"));
        check.due(33, "listen(0): the last hears most finely", x.listen(0), 2);
        check.due(33, "listen(10)", x.listen(10), -1);
        check.due(33, "listen(-1)", x.listen(-1), -1);
        x.heard(2, 0);
        check.due(33, "listen(0): all are alike now", x.listen(0), 0);
        x.heard(-1, 0);
        x.heard(1, 0);
        check.due(33, "listen(0)", x.listen(0), 2);
        x.heard(0, 1);
        check.due(33, "listen(0): no pair", x.listen(0), -1);
        check.due(33, "listen(1): err is of what was heard", x.listen(1), 2);
        ItalicsLean z = Check.people(1, 9);
        z.by(Check.read(z, "hears if who = 0 then 7 else if from = 9 then word else 500 end end;"));
        z.heard(1, 0);
        check.due(33, "listen(1): of two pairs one is left", z.listen(1), 1);
        ItalicsLean ends = Check.people(1, 2);
        ends.by(Check.read(ends, "hears if who = 0 then -999 else word - 999 end;"));
        check.due(33, "listen(0): the least that is heard", ends.listen(0), 1);
        ends.by(Check.read(ends, "hears if who = 0 then 999 else 999 - word end;"));
        check.due(33, "listen(0): the most that is heard", ends.listen(0), 1);
        ItalicsLean y = Check.people(0);
        check.due(33, "listen(0)", y.listen(0), 0);
        y.heard(0, 99);
        check.due(33, "meant(0, 0)", y.meant(0, 0), 1);
        check.due(33, "listen(0): one pair", y.listen(0), -1);
        check.due(33, "listen(1): two pairs", y.listen(1), 0);
        check.due(33, "listen(0) of nobody", new ItalicsLean().listen(0), -1);
    }

    private static void bars() {
        ItalicsLean x = new ItalicsLean();
        check.due(34, "bar(4, true)", x.bar(4, true), true);
        check.due(34, "bar(4, true) again", x.bar(4, true), true);
        check.due(34, "bar(0, false)", x.bar(0, false), true);
        check.due(34, "bar(5, true)", x.bar(5, true), false);
        check.due(34, "bar(-1, true)", x.bar(-1, true), false);
        for (int i = 0; i < 5; i++) {
            x.person(0, 1);
        }
        check.due(34, "props(false): 4 is barred, 3 isn't", x.props(false), 9);
        x.bar(3, true);
        check.due(34, "props(false): none for 4", x.props(false), -1);
        check.due(34, "props(true): none for 4", x.props(true), -1);
        x.bar(4, false);
        check.due(34, "props(false)", x.props(false), 18);
    }

    private static void props() {
        int[] sets = {0, 1, 1, 2, 5, 9};
        int[] many = {0, 1, 1, 1, 2, 2};
        for (int people = 0; people <= 5; people++) {
            ItalicsLean x = Check.people(new int[people]);
            check.due(35, "props(false) of " + people, x.props(false), sets[people]);
            check.due(35, "props(true) of " + people, x.props(true), many[people]);
        }
        ItalicsLean x = Check.people(0, 0, 0);
        x.bar(1, true);
        check.due(35, "props(false)", x.props(false), 5);
        x.prop(1, true);
        check.due(35, "props(false): not those that are", x.props(false), 5);
        check.due(35, "is(3): nothing changes", x.is(3), 2);
        x.bar(0, true);
        check.due(35, "props(false)", x.props(false), -1);
        ItalicsLean y = Check.people(0, 0, 0, 0, 0);
        y.bar(1, true);
        y.bar(3, true);
        check.due(35, "props(false)", y.props(false), 21);
        check.due(35, "props(true)", y.props(true), 3);
    }

    private static void odds(int from, int n, int to, long upper, long lower) {
        ItalicsLean x = new ItalicsLean();
        String call = "likely(" + from + ", " + n + ", " + to + ", ..)";
        check.due(36, call, x.likely(from, n, to, false), upper);
        check.due(36, call + " low", x.likely(from, n, to, true), lower);
    }

    private static void likely() {
        odds(0, 0, 0, 1, 1);
        odds(0, 0, 1, 0, 1);
        odds(0, 1, 1, 1, 3);
        odds(0, 1, 2, 0, 1);
        odds(0, 2, 0, 1, 3);
        odds(0, 2, 1, 2, 9);
        odds(9, 1, 9, 2, 3);
        odds(-9, 1, -9, 2, 3);
        odds(9, 2, 9, 5, 9);
        odds(-9, 18, 9, 1, 387420489);
        // 18 up and one stay: two ways at either end, one at each of 17 between: 21 of 3^19.
        odds(-9, 19, 9, 7, 387420489);
        odds(-9, 17, 9, 0, 1);
        // Two stays (233 ways) or one way back (18): the lower one is more than an int holds.
        odds(-9, 20, 9, 251, 3486784401L);
        ItalicsLean x = new ItalicsLean();
        long sum = 0;
        for (int to = -9; to <= 9; to++) {
            sum += x.likely(3, 20, to, false) * (3486784401L / x.likely(3, 20, to, true));
        }
        check.due(36, "all of likely(3, 20, ..)", sum, 3486784401L);
        check.due(36, "likely(10, 0, 0, false)", x.likely(10, 0, 0, false), -1);
        check.due(36, "likely(-10, 0, 0, true)", x.likely(-10, 0, 0, true), -1);
        check.due(36, "likely(0, 0, 10, true)", x.likely(0, 0, 10, true), -1);
        check.due(36, "likely(0, 0, -10, true)", x.likely(0, 0, -10, true), -1);
        check.due(36, "likely(0, 21, 0, true)", x.likely(0, 21, 0, true), -1);
        check.due(36, "likely(0, -1, 0, true)", x.likely(0, -1, 0, true), -1);
    }

    private static void firstly(int from, int n, long upper, long lower) {
        ItalicsLean x = new ItalicsLean();
        String call = "first(" + from + ", " + n + ", ..)";
        check.due(37, call, x.first(from, n, false), upper);
        check.due(37, call + " low", x.first(from, n, true), lower);
    }

    private static void first() {
        firstly(0, 0, 1, 1);
        firstly(1, 0, 0, 1);
        firstly(0, 1, 0, 1);
        firstly(0, 2, 0, 1);
        firstly(1, 1, 1, 3);
        firstly(-1, 1, 1, 3);
        firstly(1, 2, 1, 9);
        // 1 1 1 0, 1 2 1 0 of 27.
        firstly(1, 3, 2, 27);
        firstly(2, 1, 0, 1);
        firstly(2, 2, 1, 9);
        firstly(9, 9, 1, 19683);
        // One of ten years is stayed: in the first (at 9, two ways) or in one of eight more.
        firstly(9, 10, 10, 59049);
        ItalicsLean x = new ItalicsLean();
        check.due(37, "first(10, 0, false)", x.first(10, 0, false), -1);
        check.due(37, "first(-10, 0, false)", x.first(-10, 0, false), -1);
        check.due(37, "first(0, 21, false)", x.first(0, 21, false), -1);
        check.due(37, "first(0, -1, true)", x.first(0, -1, true), -1);
    }

    private static void medians() {
        check.due(38, "median() of nobody", new ItalicsLean().median(), -100);
        check.due(38, "median() of one", Check.people(-9).median(), -9);
        check.due(38, "median() of one", Check.people(9).median(), 9);
        check.due(38, "median() of two: the lower", Check.people(4, -2).median(), -2);
        check.due(38, "median() of three", Check.people(9, -9, 3).median(), 3);
        check.due(38, "median() of four", Check.people(5, 1, 7, 2).median(), 2);
        check.due(38, "median() of five", Check.people(5, 5, 7, 2, 9).median(), 5);
        check.due(39, "spread() of nobody", new ItalicsLean().spread(), 0);
        check.due(39, "spread() of one", Check.people(-9).spread(), 0);
        check.due(39, "spread()", Check.people(9, -9, 3).spread(), 18);
        check.due(39, "spread()", Check.people(-2, -7, -3).spread(), 5);
    }

    private static void quarrels() {
        boolean[][] wins = new boolean[10][10];
        for (int a = 0; a <= 9; a++) {
            for (int b = 0; b <= 9; b++) {
                for (int k = 1; k <= 3; k++) {
                    wins[a][b] |= k <= a && !wins[a - k][b] || k <= b && !wins[a][b - k];
                }
                check.due(40, "quarrel of " + a + " and " + -b, Check.people(a, -b).quarrel(0, 1), wins[a][b] ? 1 : 0);
                check.due(40, "quarrel of " + -b + " and " + a, Check.people(a, -b).quarrel(1, 0), wins[a][b] ? 1 : 0);
            }
        }
        ItalicsLean x = Check.people(1, 2);
        check.due(40, "quarrel(0, 0)", x.quarrel(0, 0), -1);
        check.due(40, "quarrel(0, 2)", x.quarrel(0, 2), -1);
        check.due(40, "quarrel(-1, 0)", x.quarrel(-1, 0), -1);
    }

    private static void said() {
        ItalicsLean x = Check.people(1, 2);
        check.due(41, "said(2, 0)", x.said(2, 0), -2);
        check.due(41, "said(-2, 0)", x.said(-2, 0), -2);
        check.due(41, "said(0, 10)", x.said(0, 10), -2);
        check.due(41, "said(0, -10)", x.said(0, -10), -2);
        for (int i = 1; i <= 8; i++) {
            check.due(41, "said(1, 9)", x.said(1, 9), i);
        }
        check.due(41, "said(1, 9): the ninth", x.said(1, 9), -2);
        check.due(41, "about(6)", x.about(6), 8);
        check.due(41, "said(NONE, 10)", x.said(-1, 10), 0);
        check.due(41, "about(6)", x.about(6), 0);
    }

    private static void whose() {
        ItalicsLean x = Check.people(5, -2);
        check.due(42, "whose() without texts", x.whose(), 0);
        Check.read(x, "leans slant;");
        Check.read(x, "leans 5;");
        Check.read(x, "turn 1;");
        Check.read(x, "leans step slant to wind;");
        check.due(42, "whose(): nothing said", x.whose(), 15);
        x.said(0, 5);
        check.due(42, "whose()", x.whose(), 3);
        x.said(1, -2);
        check.due(42, "whose()", x.whose(), 1);
        x.said(-1, 0);
        x.said(0, 4);
        check.due(42, "whose(): one without leans leans as without", x.whose(), 12);
        x.by(0);
        check.due(42, "whose(): whichever rules", x.whose(), 12);
        x.year(1);
        check.due(42, "whose(): as now", x.whose(), 12);
        x.said(0, 5);
        check.due(42, "whose()", x.whose(), 0);
    }

    private static void straight() {
        check.due(43, "straight() of nobody", new ItalicsLean().straight(), 0);
        check.due(43, "straight()", Check.people(0, 1, 0, -1, 0).straight(), 21);
        ItalicsLean x = Check.people(0, 1);
        x.swap(0, 1);
        check.due(43, "straight(): people, not seats", x.straight(), 1);
    }

    private static void steepest() {
        check.due(44, "steepest() of nobody", new ItalicsLean().steepest(), -1);
        check.due(44, "steepest() of straight ones", Check.people(0, 0).steepest(), -1);
        check.due(44, "steepest()", Check.people(0, 3, -4, 4).steepest(), 2);
        check.due(44, "steepest()", Check.people(-1, 1).steepest(), 0);
    }

    private static void ledger() {
        ItalicsLean x = Check.people(-1, -2, 9);
        check.due(45, "ledger(NONE)", x.ledger(-1), 0);
        x.year(2);
        check.due(45, "ledger(NONE)", x.ledger(-1), 2);
        check.due(45, "ledger(0)", x.ledger(0), 1);
        check.due(45, "ledger(1)", x.ledger(1), 1);
        check.due(45, "ledger(2)", x.ledger(2), 0);
        check.due(45, "ledger(3)", x.ledger(3), -2);
        check.due(45, "ledger(-2)", x.ledger(-2), -2);
    }

    private static void images() {
        ItalicsLean x = Check.people(-1, 5);
        x.rack(1, 7);
        x.bar(0, true);
        x.word(4);
        x.heard(0, 3);
        x.said(1, 2);
        x.swap(0, 1);
        x.year(2);
        check.due(46, "image()", x.image(), 2);
        x.person(3, 3);
        x.rack(1, -7);
        x.bar(0, false);
        x.bar(1, true);
        x.word(5);
        x.heard(-1, 0);
        x.said(-1, 0);
        x.undo();
        x.undo();
        x.undo();
        x.prop(0, true);
        x.feed(0, 0, 0, 0, 0);
        check.due(47, "back()", x.back(), 2);
        check.due(47, "about(0)", x.about(0), 2);
        check.due(47, "about(3)", x.about(3), 3);
        check.due(47, "about(4)", x.about(4), 1);
        check.due(47, "about(5)", x.about(5), 1);
        check.due(47, "about(6)", x.about(6), 1);
        check.due(47, "about(7): the tape stays", x.about(7), 20);
        check.due(47, "is(3)", x.is(3), 0);
        check.due(47, "is(0)", x.is(0), 2);
        check.due(47, "seat(0, 0)", x.seat(0, 0), 1);
        check.due(47, "seat(1, 1)", x.seat(1, 1), 7);
        check.due(47, "props(false): 0 is barred", x.props(false), 2);
        check.due(47, "page(4, 1)", x.page(4, 1), 1);
        check.due(47, "book(NONE, 0)", x.book(-1, 0), 1);
        check.due(47, "undo()", x.undo(), 2);
        check.due(47, "undo()", x.undo(), 1);
        check.due(47, "book(NONE, 0)", x.book(-1, 0), 0);
        check.due(47, "undo()", x.undo(), 0);
        check.due(47, "seat(0, 0)", x.seat(0, 0), 0);
        check.due(47, "back(): it stays", x.back(), 2);
        check.due(47, "about(3)", x.about(3), 3);
        check.due(46, "image() anew", x.image(), 2);
    }

    private static void imagesAndTexts() {
        ItalicsLean x = Check.people(5);
        Check.read(x, "leans 1;");
        x.by(0);
        x.image();
        Check.read(x, "leans 2;");
        x.by(1);
        check.due(47, "of(0, 3)", x.of(0, 3), 2);
        Check.read(x, "leans;");
        x.back();
        check.due(47, "about(1)", x.about(1), 1);
        check.due(47, "about(2)", x.about(2), 0);
        check.due(47, "of(0, 3)", x.of(0, 3), 1);
        check.due(47, "fault(0): the latest stays", x.fault(0), 1);
        check.due(47, "fault(1): the latest stays", x.fault(1), 5);
        check.due(47, "by(1): not there", x.by(1), false);
        check.due(47, "played(1): not there", x.played(1), -2);
        check.due(47, "a text anew", Check.read(x, "leans 3;"), 1);
        x.by(1);
        check.due(47, "of(0, 3)", x.of(0, 3), 3);
        x.back();
        check.due(47, "of(0, 3)", x.of(0, 3), 1);
    }

    private static void numbers() {
        ItalicsLean x = Check.people(1, 2);
        int[] wants = {2, 0, -1, 0, 0, 0, 0, 0};
        for (int what = 0; what < 8; what++) {
            check.due(48, "about(" + what + ")", x.about(what), wants[what]);
        }
        Check.read(x, "turn 1;");
        Check.read(x, "turn 1;");
        x.by(1);
        x.turn(1);
        x.word(1);
        x.word(1);
        x.word(1);
        for (int i = 0; i < 4; i++) {
            x.heard(0, 0);
            x.said(0, 0);
        }
        x.said(0, 0);
        x.feed(0, 0, 0, 0, 0);
        x.end(7);
        wants = new int[] {2, 2, 1, 1, 3, 4, 5, 7};
        for (int what = 0; what < 8; what++) {
            check.due(48, "about(" + what + ")", x.about(what), wants[what]);
        }
        check.due(48, "about(8)", x.about(8), -2);
        check.due(48, "about(-1)", x.about(-1), -2);
    }
}
