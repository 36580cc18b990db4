/** Promises 21 to 30: what comes, what is still, turns, seats, ragged neighbours, pages. */
final class ForetellTest {
    private static final Check check = new Check("ForetellTest");

    public static void main(String[] args) {
        foretold();
        still();
        upright();
        byTurns();
        seats();
        ragged();
        words();
        pages();
        narrowest();
        check.finish();
    }

    private static void foretold() {
        ItalicsLean x = Check.people(3, -1);
        check.due(21, "foretold(0, 0)", x.foretold(0, 0), -100);
        check.due(21, "foretold(61, 0)", x.foretold(61, 0), -100);
        check.due(21, "foretold(1, 2)", x.foretold(1, 2), -100);
        check.due(21, "foretold(1, -1)", x.foretold(1, -1), -100);
        check.due(21, "foretold(1, 0)", x.foretold(1, 0), 4);
        check.due(21, "foretold(1, 1)", x.foretold(1, 1), 0);
        x.prop(0, true);
        check.due(21, "foretold(60, 0): propped", x.foretold(60, 0), 3);
        int far = x.foretold(60, 1);
        check.due(21, "is(0): nothing changes", x.is(0), 0);
        check.due(21, "is(1): nothing changes", x.is(1), 317);
        check.due(21, "about(3): nothing changes", x.about(3), 1);
        check.due(21, "book(NONE, 0): nothing changes", x.book(-1, 0), 0);
        x.year(60);
        check.due(21, "foretold(60, 1)", far, x.of(1, 0));
        ItalicsLean y = Check.people(1);
        y.by(Check.read(y, "leans year;"));
        check.due(21, "foretold(5, 0): years go on in laws", y.foretold(5, 0), 4);
    }

    private static void still() {
        ItalicsLean x = Check.people(3, -4);
        check.due(22, "still(0, false)", x.still(0, false), 4);
        check.due(22, "still(0, true)", x.still(0, true), 1);
        check.due(22, "still(9, false)", x.still(9, false), 13);
        check.due(22, "still(10, false)", x.still(10, false), -1);
        check.due(22, "still(-10, true)", x.still(-10, true), -1);
        x.prop(1, true);
        check.due(22, "still(9, false): propped", x.still(9, false), 6);
        check.due(22, "is(2): nothing changes", x.is(2), 0);
        check.due(22, "of(0, 0): nothing changes", x.of(0, 0), 3);
        ItalicsLean y = Check.people(0);
        y.by(Check.read(y, "leans if slant < 5 then slant + 1 else 2 end;"));
        check.due(22, "still(0, false): from 2 on", y.still(0, false), 2);
        check.due(22, "still(0, true): 2 3 4 5", y.still(0, true), 4);
        ItalicsLean z = Check.people(1);
        z.by(Check.read(z, "leans year + slant;"));
        z.year(3);
        int slant = z.of(0, 0);
        check.due(22, "still(0, false): year as now", z.still(0, false), (9 - slant + 2) / 3);
        ItalicsLean w = Check.people(-9, -9);
        // Two that count to 19 and 19 times 19 come again after 361: too late.
        w.by(Check.read(w, "leans if who = 1 then if slant = 9 then -9 else slant + 1 end "
                + "else if left = 0 and right = -9 then if slant = 9 then -9 else slant + 1 end else slant end end;"));
        check.due(22, "still(0, true): not in 200", w.still(0, true), -1);
        check.due(22, "still(0, false): not in 200", w.still(0, false), -1);
        check.due(22, "still(3, true) of nobody", new ItalicsLean().still(3, true), 1);
        check.due(22, "still(3, false) of nobody", new ItalicsLean().still(3, false), 0);
        longRings();
    }

    /** Three that each go round in rings of 19, 5 and 2, or fewer: 190 is found, 380 not. */
    private static void longRings() {
        String rings = "leans if who = 0 then if slant = 9 then -9 else slant + 1 end "
                + "else if slant >= weight then 0 else slant + 1 end end;";
        ItalicsLean x = new ItalicsLean();
        x.person(0, 1);
        x.person(0, 4);
        x.person(0, 1);
        x.by(Check.read(x, rings));
        check.due(22, "still(0, true): 19 by 5 by 2", x.still(0, true), 190);
        check.due(22, "still(0, false)", x.still(0, false), 0);
        ItalicsLean y = new ItalicsLean();
        y.person(0, 1);
        y.person(-9, 4);
        y.person(0, 1);
        y.by(Check.read(y, rings));
        check.due(22, "still(0, false): 9 and 190 are 199", y.still(0, false), 9);
        check.due(22, "still(0, true)", y.still(0, true), 190);
        y.person(-1, 2);
        check.due(22, "still(0, true): three times that", y.still(0, true), -1);
        // A fourth one comes to rest behind 10 or 11 years: 200 in all is found, 201 not.
        for (int rest = 1; rest <= 2; rest++) {
            ItalicsLean late = new ItalicsLean();
            late.person(0, 1);
            late.person(0, 4);
            late.person(0, 1);
            late.person(-9, rest);
            late.by(Check.read(late, rings.replace("leans ", "leans if who = 3 then step slant to weight else ")
                    .replace(";", " end;")));
            check.due(22, "still(0, false): behind " + (9 + rest), late.still(0, false), rest == 1 ? 10 : -1);
            check.due(22, "still(0, true): 190 more", late.still(0, true), rest == 1 ? 190 : -1);
        }
        ItalicsLean z = new ItalicsLean();
        z.person(0, 1);
        z.person(0, 9);
        z.by(Check.read(z, rings));
        check.due(22, "still(0, true): 19 by 10", z.still(0, true), 190);
    }

    private static void upright() {
        ItalicsLean x = Check.people(3, -4, 0);
        check.due(23, "upright(0, 0)", x.upright(0, 0), 3);
        check.due(23, "upright(0, 9)", x.upright(0, 9), -1);
        check.due(23, "upright(1, 9)", x.upright(1, 9), 4);
        check.due(23, "upright(2, 9): it is", x.upright(2, 9), 0);
        check.due(23, "upright(3, 0)", x.upright(3, 0), -1);
        check.due(23, "upright(-1, 0)", x.upright(-1, 0), -1);
        check.due(23, "upright(0, 10)", x.upright(0, 10), -1);
        check.due(23, "upright(0, -10)", x.upright(0, -10), -1);
        x.prop(0, true);
        check.due(23, "upright(0, 0): propped", x.upright(0, 0), -1);
        check.due(23, "book(NONE, 0): nothing changes", x.book(-1, 0), 0);
        // Two digits of slants: the left one goes on when the right one comes round, after 19 years each.
        String slow = "leans if who = 0 then if right = 9 then slant + 1 else slant end "
                + "else if slant = weight then 9 else if slant = 9 then -9 else slant + 1 end end end;";
        ItalicsLean y = new ItalicsLean();
        y.person(-3, 1);
        y.person(9, 8);
        y.by(Check.read(y, slow));
        check.due(23, "upright(0, 0)", y.upright(0, 0), 39);
        ItalicsLean z = new ItalicsLean();
        z.person(-4, 1);
        z.person(7, 8);
        z.by(Check.read(z, slow));
        check.due(23, "upright(0, 0): in 60", z.upright(0, 0), 60);
        ItalicsLean w = new ItalicsLean();
        w.person(-4, 1);
        w.person(6, 8);
        w.by(Check.read(w, slow));
        check.due(23, "upright(0, 0): not in 60", w.upright(0, 0), -1);
    }

    private static void byTurns() {
        ItalicsLean x = Check.people(1, 2, 3, 4, 5);
        check.due(24, "byTurns(NONE)", x.byTurns(-1), 0);
        check.due(24, "byTurns(0)", x.byTurns(0), -2);
        check.due(24, "byTurns(-2)", x.byTurns(-2), -2);
        x.turn(5);
        check.due(24, "byTurns(NONE): turned once, and to be turned evenly", x.byTurns(-1) > 1, true);
        follow(x);
        x.swap(1, 3);
        follow(x);
        ItalicsLean y = Check.people(1, 2);
        y.swap(0, 1);
        int[] turns = {1, 2, 1};
        check.due(24, "byTurns(NONE)", y.byTurns(-1), 3);
        for (int i = 0; i < 3; i++) {
            check.due(24, "byTurns(" + i + ")", y.byTurns(i), turns[i]);
        }
        check.due(24, "byTurns(3)", y.byTurns(3), -2);
        check.due(24, "of(0, 0): nothing changes", y.of(0, 0), 1);
        check.due(24, "byTurns(NONE) of nobody", new ItalicsLean().byTurns(-1), 0);
        check.due(24, "byTurns(0) of nobody", new ItalicsLean().byTurns(0), -2);
        ItalicsLean z = Check.people(7);
        check.due(24, "byTurns(NONE) of one", z.byTurns(-1), 0);
        z.person(8, 1);
        z.person(9, 1);
        z.swap(0, 2);
        follow(z);
    }

    /** Does the turns that are told: all must then sit by number, leaning as now. */
    private static void follow(ItalicsLean x) {
        int people = x.about(0);
        int many = x.byTurns(-1);
        int[] turns = new int[many];
        for (int i = 0; i < many; i++) {
            turns[i] = x.byTurns(i);
        }
        int[] slants = new int[people];
        for (int p = 0; p < people; p++) {
            slants[p] = x.of(p, 0);
        }
        x.image();
        for (int turn : turns) {
            check.due(24, "turn(" + turn + ")", x.turn(turn), true);
        }
        for (int p = 0; p < people; p++) {
            check.due(24, "of(" + p + ", 2) behind the turns", x.of(p, 2), p);
            check.due(24, "of(" + p + ", 0) behind the turns", x.of(p, 0), slants[p]);
        }
        x.back();
    }

    private static void seats() {
        ItalicsLean x = new ItalicsLean();
        check.due(25, "seats(true, 0) of nobody", x.seats(true, 0), -2);
        check.due(25, "seats(false, 0) of nobody", x.seats(false, 0), -2);
        x.person(5, 2);
        x.person(-3, 1);
        x.person(5, 2);
        x.rack(0, -3);
        x.rack(1, 5);
        x.rack(2, 4);
        check.due(25, "seats(true, 0)", x.seats(true, 0), 2);
        check.due(25, "seats(true, 77)", x.seats(true, 77), 2);
        int[] who = {1, 0, 2};
        for (int i = 0; i < 3; i++) {
            check.due(25, "seats(false, " + i + ")", x.seats(false, i), who[i]);
        }
        check.due(25, "seats(false, 3)", x.seats(false, 3), -2);
        check.due(25, "seats(false, -1)", x.seats(false, -1), -2);
        check.due(25, "seat(0, 0): nothing changes", x.seat(0, 0), 0);
        ItalicsLean alone = new ItalicsLean();
        alone.person(3, 2);
        check.due(25, "seats(true, 0) of one", alone.seats(true, 0), 6);
        // Weight counts: the heavy one has its rack, though the light one is farther then.
        ItalicsLean y = new ItalicsLean();
        y.person(4, 1);
        y.person(4, 9);
        y.rack(0, 4);
        check.due(25, "seats(false, 0): the heavy one", y.seats(false, 0), 1);
        check.due(25, "seats(true, 0)", y.seats(true, 0), 4);
    }

    private static void ragged() {
        ItalicsLean x = Check.people(3, -1, 0, 2, -9);
        check.due(26, "ragged(NONE)", x.ragged(-1), 2);
        check.due(26, "ragged(0)", x.ragged(0), 0);
        check.due(26, "ragged(1)", x.ragged(1), 3);
        check.due(26, "ragged(2)", x.ragged(2), -2);
        check.due(26, "ragged(-2)", x.ragged(-2), -2);
        x.swap(0, 4);
        check.due(26, "ragged(NONE)", x.ragged(-1), 0);
        check.due(26, "ragged(NONE) of nobody", new ItalicsLean().ragged(-1), 0);
        check.due(26, "ragged(0) of nobody", new ItalicsLean().ragged(0), -2);
        check.due(26, "ragged(NONE): straight ones don't lean", Check.people(0, -1, 1, 0).ragged(-1), 0);
    }

    private static void words() {
        ItalicsLean x = new ItalicsLean();
        check.due(27, "word(0)", x.word(0), -2);
        check.due(27, "word(21)", x.word(21), -2);
        check.due(27, "word(-2)", x.word(-2), -2);
        for (int i = 1; i <= 10; i++) {
            check.due(27, "word(20)", x.word(20), i);
        }
        check.due(27, "word(1): the eleventh", x.word(1), -2);
        check.due(27, "about(4)", x.about(4), 10);
        check.due(30, "narrowest(1): ten of 20 and nine free", x.narrowest(1), 209);
        check.due(30, "narrowest(10)", x.narrowest(10), 20);
        check.due(28, "page(60, 1): two in a line", x.page(60, 1), 5);
        check.due(28, "page(60, 0)", x.page(60, 0), 4 * 19 * 19);
        check.due(27, "word(NONE)", x.word(-1), 0);
        check.due(27, "about(4)", x.about(4), 0);
        check.due(27, "word(1)", x.word(1), 1);
    }

    private static ItalicsLean page(int... widths) {
        ItalicsLean x = new ItalicsLean();
        for (int width : widths) {
            x.word(width);
        }
        return x;
    }

    private static void pages() {
        ItalicsLean none = new ItalicsLean();
        check.due(28, "page(1, 0) without words", none.page(1, 0), 0);
        check.due(28, "page(1, 1) without words", none.page(1, 1), 0);
        check.due(28, "page(1, 2) without words", none.page(1, 2), -1);
        check.due(28, "page(0, 0) without words", none.page(0, 0), -1);
        check.due(29, "line(1, 0) without words", none.line(1, 0), -1);
        ItalicsLean x = page(3, 4, 5);
        check.due(28, "page(0, 0)", x.page(0, 0), -1);
        check.due(28, "page(61, 0)", x.page(61, 0), -1);
        check.due(28, "page(4, 0): a word is wider", x.page(4, 0), -1);
        check.due(28, "page(4, 1): a word is wider", x.page(4, 1), -1);
        check.due(29, "line(4, 0): a word is wider", x.line(4, 0), -1);
        check.due(28, "page(60, 0)", x.page(60, 0), 0);
        check.due(28, "page(5, 0)", x.page(5, 0), 4 + 1);
        check.due(28, "page(5, 1)", x.page(5, 1), 3);
        check.due(28, "page(5, 2)", x.page(5, 2), -1);
        check.due(28, "page(5, -1)", x.page(5, -1), -1);
        check.due(29, "line(5, 2)", x.line(5, 2), 2);
        check.due(29, "line(5, 3)", x.line(5, 3), -1);
        check.due(29, "line(5, -1)", x.line(5, -1), -1);
        check.due(29, "line(0, 0)", x.line(0, 0), -1);
        check.due(29, "line(61, 0)", x.line(61, 0), -1);
        check.due(28, "page(4, 0): the first word is wider", page(5, 1).page(4, 0), -1);
        // 3 / 2 2 / 5: badness 9 + 1 (a greedy 3 2 / 2 / 5 has 0 + 16).
        ItalicsLean y = page(3, 2, 2, 5);
        check.due(28, "page(6, 0)", y.page(6, 0), 10);
        check.due(28, "page(6, 1)", y.page(6, 1), 3);
        check.due(29, "line(6, 1)", y.line(6, 1), 1);
        check.due(29, "line(6, 2)", y.line(6, 2), 3);
        // Alike in badness: the fewest lines. 1 1 1 in width 1: each alone, 3 lines, badness 0.
        ItalicsLean z = page(1, 1, 1);
        check.due(28, "page(1, 1)", z.page(1, 1), 3);
        check.due(28, "page(3, 0)", z.page(3, 0), 0);
        check.due(28, "page(3, 1)", z.page(3, 1), 2);
        check.due(29, "line(3, 1)", z.line(3, 1), 2);
        check.due(28, "page(5, 1)", z.page(5, 1), 1);
        // 2 / 2 2 / 2 2 and 2 2 / 2 / 2 2 (16 + 1): the first line with the fewest words.
        ItalicsLean w = page(2, 2, 2, 2, 2);
        check.due(28, "page(6, 0): 2 2 / 2 2 / 2 has 1 + 1", w.page(6, 0), 2);
        check.due(29, "line(6, 1)", w.line(6, 1), 2);
        ItalicsLean v = page(2, 2, 2, 6);
        check.due(28, "page(6, 0): 2 / 2 2 / 6 or 2 2 / 2 / 6", v.page(6, 0), 17);
        check.due(29, "line(6, 1): the fewest words first", v.line(6, 1), 1);
        check.due(29, "line(6, 2)", v.line(6, 2), 3);
    }

    private static void narrowest() {
        check.due(30, "narrowest(1) without words", new ItalicsLean().narrowest(1), -1);
        ItalicsLean x = page(3, 4, 5);
        check.due(30, "narrowest(0)", x.narrowest(0), -1);
        check.due(30, "narrowest(11)", x.narrowest(11), -1);
        check.due(30, "narrowest(1)", x.narrowest(1), 14);
        check.due(30, "narrowest(2)", x.narrowest(2), 8);
        check.due(30, "narrowest(3)", x.narrowest(3), 5);
        check.due(30, "narrowest(10)", x.narrowest(10), 5);
        check.due(30, "narrowest(2) of 2 2 2 6", page(2, 2, 2, 6).narrowest(2), 8);
        check.due(30, "narrowest(1) of 7", page(7).narrowest(1), 7);
    }
}
