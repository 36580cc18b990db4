/** Terms V and promises 14, 46, 47 and 48: ages of draws, an image to go back to, numbers; and the 512 calls. */
final class EdgesOfAges {
    private static final int NONE = ItalicsLean.NONE;
    private final Edges doc;

    EdgesOfAges(Edges doc) {
        this.doc = doc;
    }

    void all() {
        introCalls();
        termsVSeed();
        termsVTimes();
        termsVSwapped();
        termsVTurned();
        termsVPropped();
        termsVYear();
        termsVNobody();
        termsVOneStep();
        promise14Ages();
        termsVImage();
        termsVImageOfTexts();
        termsVBack();
        promise46Image();
        promise47Back();
        promise48About();
    }

    private void introCalls() {
        doc.intro("An object is used for at most 512 calls after it has been made; what later calls answer is free.");
        ItalicsLean x = new ItalicsLean();
        int calls = 0;
        for (int i = 0; i < 5; i++) {
            x.person(i - 2, 1);
            calls++;
        }
        int year = 0;
        for (; calls < 511; calls++) {
            if (year + 60 <= 9999) {
                x.year(60);
                year += 60;
            } else {
                x.ages(calls, 40);
            }
        }
        doc.due("undo(): the 512th call", x.undo(), 29);
    }

    /** A seed by which the first draw of ages is of that kind (0 .. 6), from such a seed on. */
    private static int seedOf(int kind, int from) {
        for (int seed = from; seed <= 9999; seed++) {
            if ((seed * 2 + 317) % 7 == kind) {
                return seed;
            }
        }
        return NONE;
    }

    private void termsVSeed() {
        doc.terms("V", "AGES by a SEED: X is SEED (0 .. 9999) * 2 + 317;");
        for (int seed : new int[] {0, 1, 4999, 9998, 9999}) {
            ItalicsLean x = Check.people(1, 2, 3);
            x.prop(0, true);
            x.ages(seed, 1);
            int draw = EdgesOfPeople.drawn(seed * 2 + 317);
            if ((seed * 2 + 317) % 7 >= 4) {
                draw = EdgesOfPeople.drawn(draw);
            }
            doc.due("is(1) behind ages(" + seed + ", 1)", x.is(1), draw);
        }
        ItalicsLean y = Check.people(1);
        y.year(17);
        y.ages(0, 1);
        doc.due("is(1): whatever it was", y.is(1), 29313);
    }

    /** What ages do, by hand: swaps, turns and props as draws say, years one by one. */
    private static int byHand(ItalicsLean x, int seed, int n) {
        ItalicsLean draws = x;
        int people = x.about(0);
        int draw = seed * 2 + 317;
        for (int i = 0; i < n; i++) {
            int now = draw;
            draw = EdgesOfPeople.drawn(draw);
            switch (now % 7) {
                case 0 -> draws.swap(now % people, now / 7 % people);
                case 1 -> draws.turn(1 + now / 7 % people);
                case 2 -> draws.prop(now % people, true);
                case 3 -> draws.prop(now % people, false);
                default -> draw = EdgesOfPeople.drawn(draw);
            }
        }
        return draw;
    }

    private void termsVTimes() {
        doc.terms("V", "n times (1 .. 40): x is X, X anew (as in a draw): x mod 7:");
        for (int n : new int[] {1, 2, 39, 40}) {
            for (int seed = 0; seed < 10; seed++) {
                ItalicsLean x = Check.people(1, 2, 3, 4, 5);
                ItalicsLean y = Check.people(1, 2, 3, 4, 5);
                // Laws by which years do nothing, so that by hand they need not be.
                x.by(Check.read(x, "leans slant;"));
                x.ages(seed, n);
                doc.due("is(1) behind ages(" + seed + ", " + n + ")", x.is(1), byHand(y, seed, n));
                for (int i = 0; i < 5; i++) {
                    doc.due("seat(" + i + ", 0) behind ages(" + seed + ", " + n + ")", x.seat(i, 0), y.seat(i, 0));
                    doc.due("of(" + i + ", 0) behind ages(" + seed + ", " + n + ")", x.of(i, 0), y.of(i, 0));
                    doc.due("seat(" + i + ", 2) behind ages(" + seed + ", " + n + ")", x.seat(i, 2), y.seat(i, 2));
                }
            }
        }
    }

    private void termsVSwapped() {
        doc.terms("V", "0 SEATS x mod how many and x / 7 mod how many are SWAPPED;");
        for (int people = 1; people <= 5; people++) {
            for (int k = 0; k < 6; k++) {
                int seed = seedOf(0, 100 * k);
                int draw = seed * 2 + 317;
                ItalicsLean x = Check.people(new int[people]);
                x.ages(seed, 1);
                int a = draw % people;
                int b = draw / 7 % people;
                String call = " of " + people + " behind ages(" + seed + ", 1)";
                doc.due("seat(" + a + ", 0)" + call, x.seat(a, 0), b);
                doc.due("seat(" + b + ", 0)" + call, x.seat(b, 0), a);
            }
        }
    }

    private void termsVTurned() {
        doc.terms("V", "1 TURNED by 1 and x / 7 mod how many;");
        for (int people = 1; people <= 5; people++) {
            for (int k = 0; k < 6; k++) {
                int seed = seedOf(1, 100 * k);
                int n = 1 + (seed * 2 + 317) / 7 % people;
                int[] slants = new int[people];
                java.util.Arrays.fill(slants, 4);
                ItalicsLean x = Check.people(slants);
                x.ages(seed, 1);
                for (int i = 0; i < people; i++) {
                    String call = "(" + i + ", 0) of " + people + " behind ages(" + seed + ", 1)";
                    doc.due("seat" + call, x.seat(i, 0), i < n ? n - 1 - i : i);
                    doc.due("of" + call, x.of(i, 0), i < n ? -4 : 4);
                }
            }
        }
    }

    private void termsVPropped() {
        doc.terms("V", "2 a PROP is put at SEAT x mod how many, 3 taken away there (each if it can be);");
        for (int people = 1; people <= 5; people++) {
            for (int k = 0; k < 6; k++) {
                int put = seedOf(2, 100 * k);
                int seat = (put * 2 + 317) % people;
                ItalicsLean x = Check.people(new int[people]);
                x.ages(put, 1);
                doc.due("is(3) of " + people + " behind ages(" + put + ", 1)", x.is(3), 1 << seat);
                x.ages(put, 1);
                doc.due("is(3): it is so already", x.is(3), 1 << seat);
                int taken = seedOf(3, 100 * k);
                int other = (taken * 2 + 317) % people;
                ItalicsLean y = Check.people(new int[people]);
                for (int i = 0; i < people; i++) {
                    y.prop(i, true);
                }
                int all = (1 << people) - 1;
                y.ages(taken, 1);
                doc.due("is(3) of " + people + " behind ages(" + taken + ", 1)", y.is(3), all & ~(1 << other));
                y.ages(taken, 1);
                doc.due("is(3): it is so already", y.is(3), all & ~(1 << other));
            }
        }
    }

    private void termsVYear() {
        doc.terms("V", "4, 5, 6 a YEAR (if it can pass).");
        for (int kind = 4; kind <= 6; kind++) {
            int seed = seedOf(kind, 0);
            int draw = EdgesOfPeople.drawn(seed * 2 + 317);
            ItalicsLean x = Check.people(0);
            x.by(Check.read(x, "leans wind;"));
            doc.due("ages(" + seed + ", 1)", x.ages(seed, 1), 1);
            doc.due("is(2): drawn behind x", x.is(2), draw % 19 - 9);
            doc.due("of(0, 0)", x.of(0, 0), draw % 19 - 9);
            doc.due("is(1)", x.is(1), EdgesOfPeople.drawn(draw));
            ItalicsLean late = EdgesOfPeople.late(9998);
            doc.due("ages(" + seed + ", 1) at 9998", late.ages(seed, 1), 9999);
            int wind = late.is(2);
            doc.due("ages(" + seed + ", 1) at 9999", late.ages(seed, 1), 9999);
            doc.due("is(2): none passed", late.is(2), wind);
            doc.due("is(1): nothing is drawn but x", late.is(1), draw);
        }
        ItalicsLean straight = Check.people(1, 1);
        straight.by(Check.read(straight, "leans 0;"));
        straight.ages(seedOf(4, 0), 1);
        doc.due("book(NONE, 0): it is written down", straight.book(NONE, 0), 2);
        for (int kind = 0; kind <= 3; kind++) {
            ItalicsLean y = Check.people(1, 2, 3);
            doc.due("ages: no YEAR by " + kind, y.ages(seedOf(kind, 0), 1), 0);
            doc.due("is(2): no WIND by " + kind, y.is(2), 0);
        }
    }

    private void termsVNobody() {
        doc.terms("V", "What there are none of isn't.");
        for (int kind = 0; kind <= 6; kind++) {
            ItalicsLean x = new ItalicsLean();
            int seed = seedOf(kind, 0);
            int draw = EdgesOfPeople.drawn(seed * 2 + 317);
            doc.due("ages(" + seed + ", 1) of nobody", x.ages(seed, 1), kind >= 4 ? 1 : 0);
            doc.due("is(3)", x.is(3), 0);
            doc.due("is(1)", x.is(1), kind >= 4 ? EdgesOfPeople.drawn(draw) : draw);
            doc.due("about(3)", x.about(3), 1);
        }
    }

    private void termsVOneStep() {
        doc.terms("V", "It is one STEP: YEAR.");
        ItalicsLean x = Check.people(4, -3, 2);
        x.year(2);
        String before = Look.at(x);
        doc.due("ages(5, 40)", x.ages(5, 40) > 2, true);
        doc.due("ages(5, 40): YEAR", x.ages(5, 40), x.is(0));
        doc.due("about(3)", x.about(3), 4);
        x.undo();
        doc.due("undo(): the whole of it", x.undo(), 2);
        doc.same("all, behind them", Look.at(x), before);
        ItalicsLean y = new ItalicsLean();
        for (int i = 0; i < 31; i++) {
            y.ages(i, 1);
        }
        doc.due("about(3) behind 31", y.about(3), 30);
        ItalicsLean still = Check.people(1);
        still.ages(seedOf(3, 0), 1);
        doc.due("about(3): though nothing could be", still.about(3), 1);
    }

    private void promise14Ages() {
        doc.says(14, "AGES: YEAR.");
        ItalicsLean x = Check.people(1, 2);
        doc.due("ages(0, 1)", x.ages(0, 1), 0);
        doc.due("ages(0, 2)", x.ages(0, 2), 1);
        doc.due("ages(9999, 40)", x.ages(9999, 40), x.is(0));
        doc.says(14, "NONE for others.");
        String before = Look.all(x);
        doc.due("ages(-1, 1)", x.ages(-1, 1), NONE);
        doc.due("ages(10000, 1)", x.ages(10000, 1), NONE);
        doc.due("ages(0, 0)", x.ages(0, 0), NONE);
        doc.due("ages(0, -1)", x.ages(0, -1), NONE);
        doc.due("ages(0, 41)", x.ages(0, 41), NONE);
        for (int wild : Edges.WILD) {
            doc.due("ages(" + wild + ", 1)", x.ages(wild, 1), NONE);
            doc.due("ages(0, " + wild + ")", x.ages(0, wild), NONE);
        }
        doc.same("all, behind them", Look.all(x), before);
    }

    private static ItalicsLean full() {
        ItalicsLean x = Check.people(-1, 5, 3);
        for (int i = 0; i < 5; i++) {
            x.rack(i, i - 9);
            x.bar(i, i == 1);
        }
        x.by(Check.read(x, "leans if who = 0 then 1 - slant * slant else slant end; hears word + who;"));
        for (int i = 0; i < 9; i++) {
            x.word(i + 1);
        }
        for (int i = 0; i < 5; i++) {
            x.heard(0, 20);
        }
        for (int i = 0; i < 7; i++) {
            x.said(1, 5);
        }
        x.swap(0, 2);
        x.prop(1, true);
        x.year(40);
        return x;
    }

    private void termsVImage() {
        doc.terms("V", "AN IMAGE: all as it is, but the tape and the latest FAULT.");
        ItalicsLean x = full();
        Check.tape(x, "turn 1;");
        x.image();
        String image = Look.at(x);
        x.person(9, 9);
        for (int i = 0; i < 5; i++) {
            x.rack(i, 9);
            x.bar(i, i != 1);
        }
        x.word(20);
        x.heard(2, 999);
        x.said(2, -9);
        x.ages(77, 40);
        x.year(5);
        x.by(NONE);
        Check.read(x, "turn 9;");
        Check.tape(x, "year 1;  ");
        doc.due("back()", x.back(), 40);
        doc.same("all", Look.at(x), image);
        doc.due("about(7): the tape isn't in it", x.about(7), 9);
        doc.due("fault(0): the latest FAULT isn't in it", x.fault(0), 2);
        doc.due("fault(1): the latest FAULT isn't in it", x.fault(1), 5);
        doc.due("text(): the tape as it was", x.text(), 1);
        doc.due("played(1)", x.played(1), NONE);
        doc.due("is(0)", x.is(0), 41);
        x.back();
        doc.due("seats(false, 0): RACKS", x.seats(true, 0), (1 + 9) + (3 + 8) + (5 + 7));
        x.person(0, 1);
        doc.due("seat(3, 1): RACKS of SEATS that weren't there", x.seat(3, 1), -6);
        x.back();
        for (int left = 29; left >= 0; left--) {
            doc.due("undo(): STEPS are in it", x.undo(), left);
        }
        doc.due("is(0)", x.is(0), 10);
    }

    private void termsVImageOfTexts() {
        doc.terms("V", "all as it is, but the tape and the latest FAULT.");
        ItalicsLean x = Check.people(5);
        Check.read(x, "leans 1;");
        Check.read(x, "leans 2;");
        x.by(1);
        x.image();
        Check.read(x, "leans 3;");
        Check.read(x, "leans 4;");
        x.by(3);
        doc.due("of(0, 3)", x.of(0, 3), 4);
        x.back();
        doc.due("about(1): TEXTS", x.about(1), 2);
        doc.due("about(2): THE TEXT", x.about(2), 1);
        doc.due("of(0, 3)", x.of(0, 3), 2);
        doc.due("by(2): not there", x.by(2), false);
        doc.due("fault(0)", x.fault(0), 0);
        doc.due("text()", Check.read(x, "leans 5;"), 2);
        x.by(2);
        doc.due("of(0, 3)", x.of(0, 3), 5);
        x.by(0);
        doc.due("of(0, 3): the first stays", x.of(0, 3), 1);
        Check.read(x, "leans !;");
        x.back();
        doc.due("of(0, 3)", x.of(0, 3), 2);
        doc.due("fault(1)", x.fault(1), 6);
        ItalicsLean four = Check.people(5);
        for (int i = 0; i < 4; i++) {
            Check.read(four, "leans " + i + ";");
        }
        four.image();
        doc.due("text(): there are 4", Check.read(four, "leans 9;"), NONE);
        four.back();
        four.by(3);
        doc.due("of(0, 3)", four.of(0, 3), 3);
    }

    private void termsVBack() {
        doc.terms("V", "BACK: all is so again.");
        ItalicsLean x = full();
        x.image();
        String image = Look.at(x);
        for (int i = 0; i < 30; i++) {
            x.undo();
        }
        x.word(NONE);
        x.heard(NONE, 0);
        x.said(NONE, 0);
        x.turn(3);
        x.prop(1, false);
        x.back();
        doc.same("all", Look.at(x), image);
        toldAnew();
        ItalicsLean y = Check.people(4);
        y.turn(1);
        y.image();
        y.undo();
        y.person(3, 1);
        y.back();
        doc.due("about(0): PEOPLE told since are not", y.about(0), 1);
        doc.due("person(7, 7): the number anew", y.person(7, 7), 1);
        doc.due("undo()", y.undo(), 0);
        doc.due("of(0, 0)", y.of(0, 0), 4);
        doc.due("of(1, 0): as told", y.of(1, 0), 7);
    }

    /** Words, what was heard and what was said, told anew in the places of those that an image has. */
    private void toldAnew() {
        ItalicsLean x = Check.people(1, 2);
        Check.read(x, "leans who + 3;");
        x.word(7);
        x.word(3);
        x.heard(1, 30);
        x.said(0, 3);
        x.image();
        String image = Look.at(x);
        x.word(NONE);
        x.word(2);
        x.word(9);
        x.heard(NONE, 0);
        x.heard(0, 55);
        x.said(NONE, 0);
        x.said(1, -4);
        x.back();
        doc.same("all, WORDS, HEARD and SAID having been told anew", Look.at(x), image);
        doc.due("line(7, 1)", x.line(7, 1), 1);
    }

    private void promise46Image() {
        doc.says(46, "THE IMAGE is as all is now: YEAR.");
        ItalicsLean x = new ItalicsLean();
        doc.due("image() of a new object", x.image(), 0);
        x.person(1, 1);
        x.year(7);
        doc.due("image()", x.image(), 7);
        x.year(2);
        doc.due("image(): the latest", x.image(), 9);
        x.back();
        doc.due("is(0)", x.is(0), 9);
        ItalicsLean late = EdgesOfPeople.late(9999);
        doc.due("image() at 9999", late.image(), 9999);
        doc.due("about(3): it is no STEP", x.about(3), 9);
    }

    private void promise47Back() {
        doc.says(47, "BACK to THE IMAGE (it stays): YEAR.");
        ItalicsLean x = new ItalicsLean();
        doc.due("back() on a new object", x.back(), 0);
        x.person(1, 1);
        x.year(3);
        doc.due("back() to the new object", x.back(), 0);
        doc.due("about(0)", x.about(0), 0);
        x.person(2, 2);
        x.year(5);
        x.image();
        for (int i = 0; i < 3; i++) {
            x.year(1);
            x.person(0, 1);
            doc.due("back()", x.back(), 5);
            doc.due("about(0)", x.about(0), 1);
        }
        doc.due("about(3)", x.about(3), 5);
        x.undo();
        doc.due("back(): it isn't touched by what is taken back", x.back(), 5);
    }

    private void about(ItalicsLean x, int... wants) {
        for (int what = 0; what < 8; what++) {
            doc.due("about(" + what + ")", x.about(what), wants[what]);
        }
    }

    private void promise48About() {
        doc.says(48, "0 PEOPLE, 1 TEXTS, 2 THE TEXT (NONE), 3 STEPS that can be taken back, 4 WORDS, 5 HEARD, 6 SAID, "
                + "7 bytes of the tape.");
        ItalicsLean x = new ItalicsLean();
        about(x, 0, 0, NONE, 0, 0, 0, 0, 0);
        for (int i = 0; i < 5; i++) {
            x.person(0, 1);
        }
        for (int i = 0; i < 4; i++) {
            Check.read(x, "turn 1;");
        }
        x.by(2);
        x.year(40);
        for (int i = 0; i < 12; i++) {
            x.word(1);
            x.heard(0, 0);
            x.said(0, 0);
        }
        Check.tape(x, " ".repeat(300));
        about(x, 5, 4, 2, 30, 10, 6, 8, 300);
        x.end(299);
        x.undo();
        x.word(NONE);
        x.heard(NONE, 0);
        x.said(NONE, 0);
        x.by(NONE);
        about(x, 5, 4, NONE, 29, 0, 0, 0, 299);
        doc.says(48, "-2 for others.");
        doc.due("about(-1)", x.about(-1), -2);
        doc.due("about(8)", x.about(8), -2);
        for (int wild : Edges.WILD) {
            doc.due("about(" + wild + ")", x.about(wild), -2);
        }
    }
}
