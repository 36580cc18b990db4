/** Terms I and promises 1 to 3, 9 to 12, 15 to 17, 19 and 20: people, seats, steps, years, the book. */
final class EdgesOfPeople {
    private static final int NONE = ItalicsLean.NONE;
    private final Edges doc;

    EdgesOfPeople(Edges doc) {
        this.doc = doc;
    }

    void all() {
        theConstants();
        promise1NewObject();
        termsIPeople();
        termsISeats();
        termsIWindYearX();
        termsIBook();
        promise2Person();
        promise3Rack();
        termsISwappedTurnedPropped();
        promise9Swap();
        promise10Turn();
        promise11Prop();
        termsIAYear();
        termsIWrittenDown();
        termsILastYear();
        promise12Year();
        promise12YearBeyond9999();
        termsISteps();
        termsIThirtySteps();
        termsIAsAheadOfIt();
        termsIPeopleToldSince();
        promise15Undo();
        promise16Of();
        promise17Seat();
        promise19Is();
        promise20Book();
    }

    /** An object of that year, with nobody told; its X is as so many draws make it. */
    static ItalicsLean late(int year) {
        ItalicsLean x = new ItalicsLean();
        for (int left = year; left > 0; left -= 60) {
            x.year(Math.min(60, left));
        }
        return x;
    }

    static int drawn(int x) {
        return (int) ((x * 577L + 449) % 30809);
    }

    private void theConstants() {
        doc.constants("`NONE = -1`: None.");
        doc.due("NONE", ItalicsLean.NONE, -1);
    }

    private void promise1NewObject() {
        doc.says(1, "Nobody;");
        ItalicsLean x = new ItalicsLean();
        doc.due("about(0)", x.about(0), 0);
        doc.due("of(0, 0)", x.of(0, 0), -100);
        doc.due("seat(0, 0)", x.seat(0, 0), -100);
        doc.due("turn(1)", x.turn(1), false);
        doc.due("about(1)", x.about(1), 0);
        doc.due("about(2)", x.about(2), NONE);
        doc.due("about(3)", x.about(3), 0);
        doc.says(1, "THE IMAGE is this.");
        ItalicsLean y = Check.people(1, 2, 3);
        y.rack(0, 5);
        y.bar(1, true);
        y.by(Check.read(y, "leans 3;"));
        y.year(3);
        y.prop(1, true);
        y.word(4);
        y.heard(0, 1);
        y.said(0, 1);
        doc.due("back()", y.back(), 0);
        doc.same("all, behind back()", Look.at(y), Look.at(new ItalicsLean()));
        y.person(0, 1);
        doc.due("seat(0, 1): its RACK is 0 again", y.seat(0, 1), 0);
        y.person(0, 1);
        y.person(0, 1);
        doc.due("props(false): none is BARRED", y.props(false), 2);
    }

    private void termsIPeople() {
        doc.terms("I", "PEOPLE 0 .. 4 (told one by one)");
        ItalicsLean x = new ItalicsLean();
        for (int i = 0; i <= 4; i++) {
            doc.due("of(" + i + ", 0) ahead of being told", x.of(i, 0), -100);
            doc.due("person", x.person(i, 1), i);
            doc.due("of(" + i + ", 0)", x.of(i, 0), i);
        }
        doc.due("a sixth", x.person(5, 1), NONE);
        doc.due("of(5, 0)", x.of(5, 0), -100);
        doc.terms("I", "SLANT -9 .. 9, WEIGHT 1 .. 9");
        ItalicsLean y = new ItalicsLean();
        y.person(-9, 1);
        y.person(9, 9);
        doc.due("of(0, 0)", y.of(0, 0), -9);
        doc.due("of(0, 1)", y.of(0, 1), 1);
        doc.due("of(1, 0)", y.of(1, 0), 9);
        doc.due("of(1, 1)", y.of(1, 1), 9);
        doc.due("person(-10, 1)", y.person(-10, 1), NONE);
        doc.due("person(10, 1)", y.person(10, 1), NONE);
        doc.due("person(0, 0)", y.person(0, 0), NONE);
        doc.due("person(0, 10)", y.person(0, 10), NONE);
    }

    private void termsISeats() {
        doc.terms("I", "each sits in a SEAT, SEATS from 0 on in a row, as many as PEOPLE (a new one in the last).");
        ItalicsLean x = new ItalicsLean();
        for (int i = 0; i < 5; i++) {
            doc.due("seat(" + i + ", 0): no SEAT yet", x.seat(i, 0), -100);
            x.person(0, 1);
            doc.due("seat(" + i + ", 0): the new one", x.seat(i, 0), i);
            if (i > 0) {
                x.swap(0, i);
                doc.due("seat(0, 0): it sits in the first now", x.seat(0, 0), i);
                x.swap(0, i);
            }
        }
        doc.due("seat(5, 0)", x.seat(5, 0), -100);
        doc.terms("I", "SEATS have a RACK -9 .. 9 (told for 0 .. 4; at first 0)");
        ItalicsLean y = Check.people(1, 2, 3, 4, 5);
        for (int i = 0; i < 5; i++) {
            doc.due("seat(" + i + ", 1) at first", y.seat(i, 1), 0);
            doc.due("rack(" + i + ", -9)", y.rack(i, -9), true);
            doc.due("seat(" + i + ", 1)", y.seat(i, 1), -9);
            doc.due("rack(" + i + ", 9)", y.rack(i, 9), true);
            doc.due("seat(" + i + ", 1)", y.seat(i, 1), 9);
        }
        doc.due("rack(5, 0)", y.rack(5, 0), false);
        doc.terms("I", "are PROPPED or not (at first not).");
        ItalicsLean z = new ItalicsLean();
        for (int i = 0; i < 5; i++) {
            z.person(0, 1);
            doc.due("seat(" + i + ", 2) at first", z.seat(i, 2), 0);
            z.prop(i, true);
            doc.due("seat(" + i + ", 2) then", z.seat(i, 2), 1);
        }
        doc.due("is(3)", z.is(3), 31);
    }

    private void termsIWindYearX() {
        doc.terms("I", "WIND -9 .. 9 (at first 0).");
        ItalicsLean x = new ItalicsLean();
        doc.due("is(2) at first", x.is(2), 0);
        int least = 0;
        int most = 0;
        int draw = 317;
        for (int i = 0; i < 100; i++) {
            x.year(1);
            doc.due("is(2) in year " + i, x.is(2), draw % 19 - 9);
            least = Math.min(least, x.is(2));
            most = Math.max(most, x.is(2));
            draw = drawn(draw);
        }
        doc.due("the least", least, -9);
        doc.due("the most", most, 9);
        doc.terms("I", "YEAR 0 .. 9999 (at first 0).");
        doc.due("is(0) at first", new ItalicsLean().is(0), 0);
        doc.due("is(0) at last", late(9999).is(0), 9999);
        doc.terms("I", "X: at first 317.");
        doc.due("is(1)", new ItalicsLean().is(1), 317);
    }

    /** One that is straight in every second year, from year 0 on. */
    private static ItalicsLean toAndFro() {
        ItalicsLean x = Check.people(1);
        x.by(Check.read(x, "leans 1 - slant;"));
        return x;
    }

    private void termsIBook() {
        doc.terms("I", "BOOK (the latest 30): YEAR, PERSON, WIND.");
        ItalicsLean x = toAndFro();
        x.year(59);
        doc.due("book(NONE, 0): thirty", x.book(NONE, 0), 30);
        doc.due("book(0, 0): the eldest", x.book(0, 0), 0);
        doc.due("book(29, 0): the latest", x.book(29, 0), 58);
        x.year(2);
        doc.due("book(NONE, 0): thirty, of 31", x.book(NONE, 0), 30);
        doc.due("book(0, 0): the second", x.book(0, 0), 2);
        doc.due("book(29, 0): the 31st", x.book(29, 0), 60);
        doc.due("book(29, 2): its WIND", x.book(29, 2), x.is(2));
        doc.due("book(30, 0)", x.book(30, 0), -100);
        ItalicsLean y = late(9998);
        for (int i = 0; i < 5; i++) {
            y.person(1, 1);
        }
        y.by(Check.read(y, "leans 0;"));
        y.year(1);
        doc.due("book(4, 0): the last year that can pass", y.book(4, 0), 9998);
        doc.due("book(4, 1): the last PERSON", y.book(4, 1), 4);
        doc.due("book(4, 2)", y.book(4, 2), y.is(2));
        doc.due("book(0, 1): the first PERSON", y.book(0, 1), 0);
        bookAtWinds(-9);
        bookAtWinds(9);
    }

    /** What is written down by the least and the greatest WIND. */
    private void bookAtWinds(int wind) {
        ItalicsLean x = new ItalicsLean();
        for (int i = 0; i < 100 && x.is(1) % 19 - 9 != wind; i++) {
            x.year(1);
        }
        x.person(wind < 0 ? 1 : -1, 1);
        int year = x.is(0);
        x.year(1);
        doc.due("book(0, 0) by the WIND " + wind, x.book(0, 0), year);
        doc.due("book(0, 1) by the WIND " + wind, x.book(0, 1), 0);
        doc.due("book(0, 2) by the WIND " + wind, x.book(0, 2), wind);
    }

    private void promise2Person() {
        doc.says(2, "A PERSON: its number.");
        ItalicsLean x = new ItalicsLean();
        for (int i = 0; i < 5; i++) {
            doc.due("person(" + (9 - i) + ", 9)", x.person(9 - i, 9), i);
        }
        doc.says(2, "NONE for others, or if there are 5.");
        doc.due("person(0, 1): there are 5", x.person(0, 1), NONE);
        doc.due("about(0)", x.about(0), 5);
        doc.due("of(4, 0): the fifth stays", x.of(4, 0), 5);
        ItalicsLean y = Check.people(3);
        String before = Look.all(y);
        doc.due("person(-10, 5)", y.person(-10, 5), NONE);
        doc.due("person(10, 5)", y.person(10, 5), NONE);
        doc.due("person(5, 0)", y.person(5, 0), NONE);
        doc.due("person(5, -1)", y.person(5, -1), NONE);
        doc.due("person(5, 10)", y.person(5, 10), NONE);
        for (int wild : Edges.WILD) {
            doc.due("person(" + wild + ", 1)", y.person(wild, 1), NONE);
            doc.due("person(0, " + wild + ")", y.person(0, wild), NONE);
        }
        doc.same("all, behind them", Look.all(y), before);
        doc.due("person(4, 1): the next number", y.person(4, 1), 1);
    }

    private void promise3Rack() {
        doc.says(3, "A RACK told: true.");
        ItalicsLean x = Check.people(0);
        doc.due("rack(0, 3)", x.rack(0, 3), true);
        doc.due("rack(0, 3) again", x.rack(0, 3), true);
        doc.due("rack(0, -4)", x.rack(0, -4), true);
        doc.due("seat(0, 1): the latest", x.seat(0, 1), -4);
        doc.due("about(3): no STEP", x.about(3), 0);
        doc.says(3, "False for others (SEATS 0 .. 4, there or not; -9 .. 9).");
        doc.due("rack(4, 9): not there", x.rack(4, 9), true);
        doc.due("rack(4, 10)", x.rack(4, 10), false);
        doc.due("rack(4, -10)", x.rack(4, -10), false);
        doc.due("rack(5, 1)", x.rack(5, 1), false);
        doc.due("rack(-1, 1)", x.rack(-1, 1), false);
        for (int wild : Edges.WILD) {
            doc.due("rack(" + wild + ", 1)", x.rack(wild, 1), false);
            doc.due("rack(0, " + wild + ")", x.rack(0, wild), false);
        }
        doc.due("seat(0, 1): as told", x.seat(0, 1), -4);
        for (int i = 1; i < 5; i++) {
            x.person(0, 1);
            doc.due("seat(" + i + ", 1): as told ahead of it", x.seat(i, 1), i == 4 ? 9 : 0);
        }
    }

    private void sitting(ItalicsLean x, int... who) {
        for (int i = 0; i < who.length; i++) {
            doc.due("seat(" + i + ", 0)", x.seat(i, 0), who[i]);
            doc.due("of(" + who[i] + ", 2)", x.of(who[i], 2), i);
        }
    }

    private void leaning(ItalicsLean x, int... slants) {
        for (int i = 0; i < slants.length; i++) {
            doc.due("of(" + i + ", 0)", x.of(i, 0), slants[i]);
        }
    }

    private void termsISwappedTurnedPropped() {
        doc.terms("I", "SWAPPED: who sits in two SEATS.");
        ItalicsLean x = Check.people(1, 2, 3, 4, 5);
        x.prop(0, true);
        x.rack(0, 7);
        x.swap(0, 4);
        sitting(x, 4, 1, 2, 3, 0);
        x.swap(4, 3);
        sitting(x, 4, 1, 2, 0, 3);
        leaning(x, 1, 2, 3, 4, 5);
        doc.due("is(3): PROPS are of SEATS", x.is(3), 1);
        doc.due("seat(0, 1): RACKS are of SEATS", x.seat(0, 1), 7);
        doc.terms("I", "TURNED by n: those in the first n SEATS sit the other way about, "
                + "the SLANT of each is its negative.");
        ItalicsLean y = Check.people(9, -9, 0, 4, -5);
        y.turn(1);
        sitting(y, 0, 1, 2, 3, 4);
        leaning(y, -9, -9, 0, 4, -5);
        y.turn(2);
        sitting(y, 1, 0, 2, 3, 4);
        leaning(y, 9, 9, 0, 4, -5);
        y.turn(5);
        sitting(y, 4, 3, 2, 0, 1);
        leaning(y, -9, -9, 0, -4, 5);
        y.turn(4);
        sitting(y, 0, 2, 3, 4, 1);
        leaning(y, 9, -9, 0, 4, -5);
        doc.terms("I", "A PROP is put at a SEAT, or taken away.");
        ItalicsLean z = Check.people(1, 2, 3, 4, 5);
        for (int i = 0; i < 5; i++) {
            z.prop(i, true);
            doc.due("is(3): put at " + i, z.is(3), (2 << i) - 1);
        }
        for (int i = 0; i < 5; i++) {
            z.prop(i, false);
            doc.due("is(3): taken away at " + i, z.is(3), 31 & ~((2 << i) - 1));
        }
    }

    private void promise9Swap() {
        doc.says(9, "SWAPPED: true.");
        ItalicsLean x = Check.people(1, 2, 3);
        doc.due("swap(0, 2)", x.swap(0, 2), true);
        doc.due("swap(2, 0): the other way about", x.swap(2, 0), true);
        doc.due("swap(1, 2)", x.swap(1, 2), true);
        sitting(x, 0, 2, 1);
        doc.says(9, "False for others (unlike SEATS that are there).");
        String before = Look.all(x);
        for (int i = 0; i < 3; i++) {
            doc.due("swap(" + i + ", " + i + ")", x.swap(i, i), false);
            doc.due("swap(" + i + ", 3): not there", x.swap(i, 3), false);
            doc.due("swap(3, " + i + "): not there", x.swap(3, i), false);
            doc.due("swap(-1, " + i + ")", x.swap(-1, i), false);
            doc.due("swap(" + i + ", -1)", x.swap(i, -1), false);
        }
        for (int wild : Edges.WILD) {
            doc.due("swap(0, " + wild + ")", x.swap(0, wild), false);
            doc.due("swap(" + wild + ", 0)", x.swap(wild, 0), false);
            doc.due("swap(" + wild + ", " + wild + ")", x.swap(wild, wild), false);
        }
        doc.same("all, behind them", Look.all(x), before);
        doc.due("swap(0, 1) of nobody", new ItalicsLean().swap(0, 1), false);
        doc.due("swap(0, 1) of one", Check.people(1).swap(0, 1), false);
        doc.due("swap(4, 5) of five", Check.people(1, 2, 3, 4, 5).swap(4, 5), false);
    }

    private void promise10Turn() {
        doc.says(10, "TURNED: true.");
        ItalicsLean x = Check.people(1, 2, 3);
        doc.due("turn(1)", x.turn(1), true);
        doc.due("turn(3)", x.turn(3), true);
        doc.says(10, "False for others (1 .. how many PEOPLE).");
        String before = Look.all(x);
        doc.due("turn(0)", x.turn(0), false);
        doc.due("turn(-1)", x.turn(-1), false);
        doc.due("turn(4)", x.turn(4), false);
        doc.due("turn(5)", x.turn(5), false);
        for (int wild : Edges.WILD) {
            doc.due("turn(" + wild + ")", x.turn(wild), false);
        }
        doc.same("all, behind them", Look.all(x), before);
        for (int people = 0; people <= 5; people++) {
            ItalicsLean y = Check.people(new int[people]);
            doc.due("turn(" + people + ") of " + people, y.turn(people), people > 0);
            doc.due("turn(" + (people + 1) + ") of " + people, y.turn(people + 1), false);
        }
    }

    private void promise11Prop() {
        doc.says(11, "A PROP put, or taken away: true.");
        ItalicsLean x = Check.people(1, 2);
        doc.due("prop(0, true)", x.prop(0, true), true);
        doc.due("prop(1, true)", x.prop(1, true), true);
        doc.due("prop(0, false)", x.prop(0, false), true);
        doc.due("is(3)", x.is(3), 2);
        doc.says(11, "False, if it is so, and for others (SEATS that are there).");
        String before = Look.all(x);
        doc.due("prop(1, true): it is so", x.prop(1, true), false);
        doc.due("prop(0, false): it is so", x.prop(0, false), false);
        doc.due("prop(2, true): not there", x.prop(2, true), false);
        doc.due("prop(2, false): not there", x.prop(2, false), false);
        doc.due("prop(-1, true)", x.prop(-1, true), false);
        doc.due("prop(-1, false)", x.prop(-1, false), false);
        doc.due("prop(32, true)", x.prop(32, true), false);
        doc.due("prop(33, false)", x.prop(33, false), false);
        for (int wild : Edges.WILD) {
            doc.due("prop(" + wild + ", true)", x.prop(wild, true), false);
            doc.due("prop(" + wild + ", false)", x.prop(wild, false), false);
        }
        doc.same("all, behind them", Look.all(x), before);
        doc.due("prop(0, true) of nobody", new ItalicsLean().prop(0, true), false);
        ItalicsLean five = Check.people(1, 2, 3, 4, 5);
        doc.due("prop(4, true) of five", five.prop(4, true), true);
        doc.due("prop(5, true) of five", five.prop(5, true), false);
    }

    private void termsIAYear() {
        doc.terms("I", "A YEAR: WIND is X mod 19, less 9 (X being (X * 577 + 449) mod 30809 then).");
        ItalicsLean x = new ItalicsLean();
        int draw = 317;
        for (int i = 0; i < 60; i++) {
            x.year(1);
            doc.due("is(2) in year " + i, x.is(2), draw % 19 - 9);
            draw = drawn(draw);
            doc.due("is(1) behind year " + i, x.is(1), draw);
        }
        doc.terms("I", "From SEAT 0 on: who sits in a SEAT that isn't PROPPED leans as leans says "
                + "(of all as it is then; PERSON by PERSON):");
        ItalicsLean y = Check.people(5, 5, 5, 5);
        y.by(Check.read(y, "leans left + 1;"));
        y.swap(0, 3);
        y.year(1);
        leaning(y, 4, 2, 3, 1);
        y.undo();
        y.prop(1, true);
        y.year(1);
        leaning(y, 7, 5, 6, 1);
        ItalicsLean z = Check.people(5);
        z.by(Check.read(z, "leans wind - year;"));
        z.year(1);
        doc.due("of(0, 0): by the WIND that is drawn", z.of(0, 0), 4);
        z.year(1);
        doc.due("of(0, 0): and the YEAR as it is then", z.of(0, 0), 29313 % 19 - 9 - 1);
        ItalicsLean all = Check.people(5, -5);
        all.prop(0, true);
        all.prop(1, true);
        all.year(60);
        leaning(all, 5, -5);
    }

    private void termsIWrittenDown() {
        doc.terms("I", "if its SLANT is 0 then and wasn't, it is written down.");
        ItalicsLean x = Check.people(0, 1, -1, 9, 0);
        x.by(Check.read(x, "leans if who = 3 then 1 else 0 end;"));
        doc.due("year(1): two came to 0", x.year(1), 2);
        doc.due("book(NONE, 0)", x.book(NONE, 0), 2);
        doc.due("book(0, 1)", x.book(0, 1), 1);
        doc.due("book(1, 1)", x.book(1, 1), 2);
        doc.due("year(1): they were 0", x.year(1), 0);
        doc.due("book(NONE, 0)", x.book(NONE, 0), 2);
        ItalicsLean y = Check.people(1, 1);
        y.by(Check.read(y, "leans 0;"));
        y.prop(0, true);
        doc.due("year(1): who is PROPPED doesn't", y.year(1), 1);
        doc.due("book(0, 1)", y.book(0, 1), 1);
        ItalicsLean z = Check.people(0, 0);
        z.by(Check.read(z, "leans 1;"));
        doc.due("year(1): away from 0", z.year(1), 0);
        z.turn(1);
        doc.due("book(NONE, 0): no TURN writes", z.book(NONE, 0), 0);
    }

    private void termsILastYear() {
        doc.terms("I", "YEAR is one more (at 9999 none can pass).");
        ItalicsLean x = late(9998);
        x.person(5, 1);
        doc.due("year(1) at 9998", x.year(1), 0);
        doc.due("is(0)", x.is(0), 9999);
        String before = Look.all(x);
        doc.due("year(1) at 9999", x.year(1), NONE);
        doc.same("all, behind it", Look.all(x), before);
    }

    private void promise12Year() {
        doc.says(12, "YEARS pass (1 .. 60): how many times anybody comes to stand straight in them.");
        ItalicsLean x = toAndFro();
        doc.due("year(1)", x.year(1), 1);
        doc.due("year(1)", x.year(1), 0);
        doc.due("year(60): in every second", x.year(60), 30);
        doc.due("is(0)", x.is(0), 62);
        doc.due("is(0) behind year(60) of nobody", late(60).is(0), 60);
        ItalicsLean y = Check.people(1, 1, 1, 1, 1);
        y.by(Check.read(y, "leans 1 - slant;"));
        doc.due("year(60): more than the BOOK has", y.year(60), 150);
        doc.due("book(NONE, 0)", y.book(NONE, 0), 30);
        doc.due("year(2) of nobody", new ItalicsLean().year(2), 0);
        doc.says(12, "NONE for others, or beyond 9999 (nothing is done then).");
        ItalicsLean z = Check.people(1, 2);
        z.year(1);
        String before = Look.all(z);
        doc.due("year(0)", z.year(0), NONE);
        doc.due("year(-1)", z.year(-1), NONE);
        doc.due("year(61)", z.year(61), NONE);
        for (int wild : Edges.WILD) {
            doc.due("year(" + wild + ")", z.year(wild), NONE);
        }
        doc.same("all, behind them", Look.all(z), before);
    }

    private void promise12YearBeyond9999() {
        doc.says(12, "or beyond 9999 (nothing is done then).");
        ItalicsLean x = late(9940);
        x.person(5, 1);
        doc.due("year(60) at 9940", x.year(60), NONE);
        String before = Look.all(x);
        doc.due("year(60) again", x.year(60), NONE);
        doc.same("all, behind it", Look.all(x), before);
        doc.due("year(59) at 9940", x.year(59) != NONE, true);
        doc.due("is(0)", x.is(0), 9999);
        doc.due("year(1)", x.year(1), NONE);
        x.undo();
        doc.due("year(2) at 9998", x.year(2), NONE);
        doc.due("is(0)", x.is(0), 9998);
        doc.due("year(1) at 9998", x.year(1) != NONE, true);
    }

    private void termsISteps() {
        doc.terms("I", "STEPS: SWAPPED, TURNED, a PROP, a YEAR (each), AGES (see V):");
        ItalicsLean x = Check.people(1, 2);
        doc.due("about(3): PEOPLE are none", x.about(3), 0);
        x.swap(0, 1);
        doc.due("about(3): SWAPPED", x.about(3), 1);
        x.turn(2);
        doc.due("about(3): TURNED", x.about(3), 2);
        x.prop(0, true);
        doc.due("about(3): a PROP", x.about(3), 3);
        x.prop(0, false);
        doc.due("about(3): a PROP taken away", x.about(3), 4);
        x.year(3);
        doc.due("about(3): three YEARS", x.about(3), 7);
        x.ages(1, 40);
        doc.due("about(3): AGES", x.about(3), 8);
        x.rack(0, 1);
        x.bar(0, true);
        x.word(1);
        x.heard(0, 1);
        x.said(0, 1);
        x.by(Check.read(x, "turn 1;"));
        x.image();
        doc.due("about(3): nothing else", x.about(3), 8);
    }

    private void termsIThirtySteps() {
        doc.terms("I", "the latest 30 can be taken back, the latest first");
        ItalicsLean x = new ItalicsLean();
        x.year(29);
        doc.due("about(3) behind 29", x.about(3), 29);
        x.year(1);
        doc.due("about(3) behind 30", x.about(3), 30);
        x.year(1);
        doc.due("about(3) behind 31", x.about(3), 30);
        x.year(60);
        doc.due("about(3) behind 91", x.about(3), 30);
        for (int left = 29; left >= 0; left--) {
            doc.due("undo()", x.undo(), left);
            doc.due("is(0)", x.is(0), 61 + left);
        }
        doc.due("undo(): the 31st can't", x.undo(), NONE);
        doc.due("is(0)", x.is(0), 61);
        x.year(31);
        doc.due("about(3): full again", x.about(3), 30);
        for (int left = 29; left >= 0; left--) {
            x.undo();
        }
        doc.due("is(0): all of them taken back", x.is(0), 62);
    }

    private void termsIAsAheadOfIt() {
        doc.terms("I", "(SLANTS, who sits where, PROPS, WIND, YEAR, X, BOOK are as ahead of it;");
        ItalicsLean x = Check.people(1, -1, 4);
        String[] ahead = new String[5];
        ahead[0] = withoutSteps(x);
        x.year(1);
        ahead[1] = withoutSteps(x);
        x.swap(0, 2);
        ahead[2] = withoutSteps(x);
        x.turn(2);
        ahead[3] = withoutSteps(x);
        x.prop(1, true);
        ahead[4] = withoutSteps(x);
        x.ages(77, 40);
        for (int i = 4; i >= 0; i--) {
            doc.due("undo()", x.undo(), i);
            doc.same("all, " + i + " STEPS being left", withoutSteps(x), ahead[i]);
        }
        ItalicsLean full = toAndFro();
        full.year(60);
        doc.due("book(0, 0): full", full.book(0, 0), 0);
        full.year(1);
        doc.due("book(0, 0): the eldest is gone", full.book(0, 0), 2);
        full.undo();
        doc.due("book(0, 0): the eldest is there", full.book(0, 0), 0);
        doc.due("book(NONE, 0)", full.book(NONE, 0), 30);
        ItalicsLean told = Check.people(1);
        told.turn(1);
        told.rack(0, 4);
        told.word(3);
        told.by(Check.read(told, "turn 1;"));
        told.undo();
        doc.due("seat(0, 1): what is told stays", told.seat(0, 1), 4);
        doc.due("about(4): what is told stays", told.about(4), 1);
        doc.due("about(2): what is told stays", told.about(2), 0);
    }

    private static String withoutSteps(ItalicsLean x) {
        return Look.at(x).replaceAll("about3=\\d+", "");
    }

    private void termsIPeopleToldSince() {
        doc.terms("I", "PEOPLE told since sit in the last SEATS, leaning as told).");
        ItalicsLean x = Check.people(2);
        x.turn(1);
        x.person(3, 7);
        x.person(-4, 8);
        x.swap(0, 2);
        x.turn(3);
        x.year(2);
        x.undo();
        x.undo();
        x.undo();
        sitting(x, 2, 1, 0);
        leaning(x, -2, 3, -4);
        doc.due("undo()", x.undo(), 1);
        sitting(x, 0, 1, 2);
        x.swap(1, 2);
        x.turn(1);
        x.undo();
        x.undo();
        doc.due("undo(): ahead of them", x.undo(), 0);
        sitting(x, 0, 1, 2);
        leaning(x, 2, 3, -4);
        doc.due("of(1, 1): WEIGHT stays", x.of(1, 1), 7);
        doc.due("about(0): they stay", x.about(0), 3);
        ItalicsLean y = new ItalicsLean();
        y.year(1);
        for (int i = 0; i < 5; i++) {
            y.person(i - 9, 1);
        }
        y.turn(5);
        y.undo();
        y.turn(5);
        y.image();
        doc.due("undo()", y.undo(), 1);
        doc.due("undo(): nobody was there", y.undo(), 0);
        sitting(y, 0, 1, 2, 3, 4);
        leaning(y, -9, -8, -7, -6, -5);
        ItalicsLean z = new ItalicsLean();
        z.year(1);
        z.person(6, 1);
        z.person(7, 1);
        z.turn(2);
        z.year(29);
        for (int i = 0; i < 29; i++) {
            z.undo();
        }
        doc.due("undo(): TURNED", z.undo(), 0);
        leaning(z, 6, 7);
        sitting(z, 0, 1);
    }

    private void promise15Undo() {
        doc.says(15, "The latest STEP is taken back: how many can be yet.");
        ItalicsLean x = Check.people(1, 2);
        x.turn(1);
        x.swap(0, 1);
        doc.due("undo()", x.undo(), 1);
        doc.due("seat(0, 0)", x.seat(0, 0), 0);
        doc.due("of(0, 0)", x.of(0, 0), -1);
        doc.due("undo()", x.undo(), 0);
        doc.due("of(0, 0)", x.of(0, 0), 1);
        doc.says(15, "NONE: there is none.");
        String before = Look.all(x);
        doc.due("undo()", x.undo(), NONE);
        doc.due("undo()", x.undo(), NONE);
        doc.same("all, behind it", Look.all(x), before);
        doc.due("undo() on a new object", new ItalicsLean().undo(), NONE);
        ItalicsLean y = Check.people(1);
        y.turn(2);
        y.swap(0, 0);
        y.prop(0, false);
        y.year(0);
        y.ages(0, 0);
        doc.due("undo(): what is refused is none", y.undo(), NONE);
    }

    private void promise16Of() {
        doc.says(16, "Of a PERSON: 0 SLANT, 1 WEIGHT, 2 its SEAT, 3 leans now.");
        ItalicsLean x = new ItalicsLean();
        x.person(9, 2);
        x.person(-9, 3);
        x.person(0, 4);
        x.swap(0, 2);
        int[][] wants = {{9, 2, 2, 8}, {-9, 3, 1, -8}, {0, 4, 0, 0}};
        for (int person = 0; person < 3; person++) {
            for (int what = 0; what < 4; what++) {
                doc.due("of(" + person + ", " + what + ")", x.of(person, what), wants[person][what]);
            }
        }
        doc.says(16, "-100 for others.");
        for (int what = 0; what < 4; what++) {
            doc.due("of(-1, " + what + ")", x.of(-1, what), -100);
            doc.due("of(3, " + what + "): not there", x.of(3, what), -100);
            doc.due("of(5, " + what + ")", x.of(5, what), -100);
        }
        doc.due("of(0, -1)", x.of(0, -1), -100);
        doc.due("of(0, 4)", x.of(0, 4), -100);
        for (int wild : Edges.WILD) {
            doc.due("of(" + wild + ", 0)", x.of(wild, 0), -100);
            doc.due("of(0, " + wild + ")", x.of(0, wild), -100);
        }
        doc.due("of(4, 0) of five", Check.people(1, 1, 1, 1, 7).of(4, 0), 7);
        doc.due("of(5, 0) of five", Check.people(1, 1, 1, 1, 7).of(5, 0), -100);
    }

    private void promise17Seat() {
        doc.says(17, "Of a SEAT: 0 who sits there, 1 RACK, 2 whether it is PROPPED (1, 0).");
        ItalicsLean x = Check.people(1, 2, 3);
        x.rack(0, -9);
        x.rack(2, 9);
        x.rack(3, 5);
        x.prop(2, true);
        x.swap(0, 2);
        int[][] wants = {{2, -9, 0}, {1, 0, 0}, {0, 9, 1}};
        for (int seat = 0; seat < 3; seat++) {
            for (int what = 0; what < 3; what++) {
                doc.due("seat(" + seat + ", " + what + ")", x.seat(seat, what), wants[seat][what]);
            }
        }
        doc.says(17, "-100 for others (SEATS that are there).");
        for (int what = 0; what < 3; what++) {
            doc.due("seat(3, " + what + "): not there", x.seat(3, what), -100);
            doc.due("seat(-1, " + what + ")", x.seat(-1, what), -100);
        }
        doc.due("seat(0, 3)", x.seat(0, 3), -100);
        doc.due("seat(0, -1)", x.seat(0, -1), -100);
        for (int wild : Edges.WILD) {
            doc.due("seat(" + wild + ", 0)", x.seat(wild, 0), -100);
            doc.due("seat(0, " + wild + ")", x.seat(0, wild), -100);
        }
        doc.due("seat(0, 1) of nobody", new ItalicsLean().seat(0, 1), -100);
        doc.due("seat(4, 0) of five", Check.people(1, 1, 1, 1, 1).seat(4, 0), 4);
        doc.due("seat(5, 0) of five", Check.people(1, 1, 1, 1, 1).seat(5, 0), -100);
    }

    private void promise19Is() {
        doc.says(19, "0 YEAR, 1 X, 2 WIND, 3 PROPS (bits).");
        ItalicsLean x = Check.people(1, 2, 3, 4, 5);
        x.year(1);
        x.prop(0, true);
        x.prop(4, true);
        doc.due("is(0)", x.is(0), 1);
        doc.due("is(1)", x.is(1), 29313);
        doc.due("is(2)", x.is(2), 4);
        doc.due("is(3)", x.is(3), 17);
        doc.says(19, "-100 for others.");
        doc.due("is(-1)", x.is(-1), -100);
        doc.due("is(4)", x.is(4), -100);
        for (int wild : Edges.WILD) {
            doc.due("is(" + wild + ")", x.is(wild), -100);
        }
    }

    private void promise20Book() {
        doc.says(20, "BOOK: how many (i NONE); the i-th, from the eldest on: 0 YEAR, 1 PERSON, 2 WIND.");
        doc.due("book(NONE, 0): empty", new ItalicsLean().book(NONE, 0), 0);
        ItalicsLean x = Check.people(-2, -1);
        x.year(2);
        int[][] wants = {{0, 1, 4}, {1, 0, 6}};
        doc.due("book(NONE, 0)", x.book(NONE, 0), 2);
        for (int i = 0; i < 2; i++) {
            for (int what = 0; what < 3; what++) {
                doc.due("book(" + i + ", " + what + ")", x.book(i, what), wants[i][what]);
            }
        }
        doc.says(20, "-100 if there is none such, and for others.");
        doc.due("book(0, 0): empty", new ItalicsLean().book(0, 0), -100);
        for (int what = 0; what < 3; what++) {
            doc.due("book(2, " + what + ")", x.book(2, what), -100);
            doc.due("book(-2, " + what + ")", x.book(-2, what), -100);
        }
        doc.due("book(0, 3)", x.book(0, 3), -100);
        doc.due("book(0, -1)", x.book(0, -1), -100);
        for (int wild : Edges.WILD) {
            doc.due("book(" + wild + ", 0)", x.book(wild, 0), -100);
            doc.due("book(0, " + wild + ")", x.book(0, wild), -100);
        }
    }
}
