/** Promises 1 to 3, 9 to 12, 14 to 17, 19 and 20: people, seats, steps by hand, ages, undo, the book. */
final class PeopleTest {
    private static final Check check = new Check("PeopleTest");

    public static void main(String[] args) {
        aNewObject();
        persons();
        racks();
        swaps();
        turns();
        props();
        years();
        lastYears();
        ages();
        agesWithNobody();
        undoing();
        undoingWithPeopleToldSince();
        thirtySteps();
        people();
        seats();
        theBook();
        theBookKeepsThirty();
        check.finish();
    }

    private static void aNewObject() {
        ItalicsLean x = new ItalicsLean();
        check.due(1, "about(0)", x.about(0), 0);
        check.due(1, "is(0)", x.is(0), 0);
        check.due(1, "is(1)", x.is(1), 317);
        check.due(1, "is(2)", x.is(2), 0);
        check.due(1, "is(3)", x.is(3), 0);
        check.due(1, "book(NONE, 0)", x.book(ItalicsLean.NONE, 0), 0);
        x.person(1, 1);
        x.rack(0, 3);
        x.year(1);
        check.due(1, "back() to the new object", x.back(), 0);
        check.due(1, "about(0) then", x.about(0), 0);
        x.person(1, 1);
        check.due(1, "seat(0, 1) then", x.seat(0, 1), 0);
        check.due(1, "NONE", ItalicsLean.NONE, -1);
    }

    private static void persons() {
        ItalicsLean x = new ItalicsLean();
        check.due(2, "person(10, 1)", x.person(10, 1), -1);
        check.due(2, "person(-10, 1)", x.person(-10, 1), -1);
        check.due(2, "person(0, 0)", x.person(0, 0), -1);
        check.due(2, "person(0, 10)", x.person(0, 10), -1);
        check.due(2, "person(min, min)", x.person(Integer.MIN_VALUE, Integer.MIN_VALUE), -1);
        check.due(2, "person(9, 9)", x.person(9, 9), 0);
        check.due(2, "person(-9, 1)", x.person(-9, 1), 1);
        for (int i = 2; i < 5; i++) {
            check.due(2, "person(0, 5)", x.person(0, 5), i);
        }
        check.due(2, "the sixth", x.person(0, 5), -1);
        check.due(2, "about(0)", x.about(0), 5);
        ItalicsLean y = Check.people(1, 2);
        y.swap(0, 1);
        y.person(3, 1);
        check.due(2, "a new one sits last", y.seat(2, 0), 2);
        check.due(2, "about(3): no step", y.about(3), 1);
    }

    private static void racks() {
        ItalicsLean x = Check.people(0);
        check.due(3, "rack(4, -9)", x.rack(4, -9), true);
        check.due(3, "rack(0, 9)", x.rack(0, 9), true);
        check.due(3, "rack(5, 0)", x.rack(5, 0), false);
        check.due(3, "rack(-1, 0)", x.rack(-1, 0), false);
        check.due(3, "rack(0, 10)", x.rack(0, 10), false);
        check.due(3, "rack(0, -10)", x.rack(0, -10), false);
        check.due(3, "seat(0, 1)", x.seat(0, 1), 9);
        for (int i = 1; i < 5; i++) {
            x.person(0, 1);
        }
        check.due(3, "seat(4, 1), told ahead of it", x.seat(4, 1), -9);
        check.due(3, "about(3): no step", x.about(3), 0);
    }

    private static void swaps() {
        ItalicsLean x = Check.people(1, 2, 3);
        check.due(9, "swap(1, 1)", x.swap(1, 1), false);
        check.due(9, "swap(0, 3)", x.swap(0, 3), false);
        check.due(9, "swap(-1, 0)", x.swap(-1, 0), false);
        check.due(9, "about(3)", x.about(3), 0);
        x.prop(0, true);
        check.due(9, "swap(0, 2)", x.swap(0, 2), true);
        check.due(9, "seat(0, 0)", x.seat(0, 0), 2);
        check.due(9, "seat(2, 0)", x.seat(2, 0), 0);
        check.due(9, "of(2, 0): slants stay", x.of(2, 0), 3);
        check.due(9, "is(3): props stay at seats", x.is(3), 1);
        check.due(9, "about(3)", x.about(3), 2);
    }

    private static void turns() {
        ItalicsLean x = Check.people(1, -2, 3, 4);
        check.due(10, "turn(0)", x.turn(0), false);
        check.due(10, "turn(5)", x.turn(5), false);
        check.due(10, "turn(-1)", x.turn(-1), false);
        check.due(10, "turn(3)", x.turn(3), true);
        int[] who = {2, 1, 0, 3};
        int[] slants = {-1, 2, -3, 4};
        for (int i = 0; i < 4; i++) {
            check.due(10, "seat(" + i + ", 0)", x.seat(i, 0), who[i]);
            check.due(10, "of(" + i + ", 0)", x.of(i, 0), slants[i]);
        }
        check.due(10, "turn(1)", x.turn(1), true);
        check.due(10, "of(2, 0)", x.of(2, 0), 3);
        check.due(10, "turn(1) without people", new ItalicsLean().turn(1), false);
    }

    private static void props() {
        ItalicsLean x = Check.people(5, 5);
        check.due(11, "prop(0, false)", x.prop(0, false), false);
        check.due(11, "prop(2, true)", x.prop(2, true), false);
        check.due(11, "prop(-1, true)", x.prop(-1, true), false);
        check.due(11, "prop(1, true)", x.prop(1, true), true);
        check.due(11, "prop(1, true) again", x.prop(1, true), false);
        check.due(11, "is(3)", x.is(3), 2);
        x.year(1);
        check.due(11, "of(0, 0): not propped", x.of(0, 0), 4);
        check.due(11, "of(1, 0): propped", x.of(1, 0), 5);
        check.due(11, "prop(1, false)", x.prop(1, false), true);
        check.due(11, "is(3)", x.is(3), 0);
        check.due(11, "about(3)", x.about(3), 3);
    }

    private static void years() {
        ItalicsLean x = Check.people(3, -1);
        check.due(12, "year(0)", x.year(0), -1);
        check.due(12, "year(61)", x.year(61), -1);
        check.due(12, "year(-5)", x.year(-5), -1);
        // 317 mod 19 is 13, less 9: a wind of 4.
        check.due(12, "year(1)", x.year(1), 1);
        check.due(12, "is(2)", x.is(2), 4);
        check.due(12, "is(1)", x.is(1), 29313);
        check.due(12, "is(0)", x.is(0), 1);
        check.due(12, "of(0, 0)", x.of(0, 0), 4);
        check.due(12, "of(1, 0)", x.of(1, 0), 0);
        check.due(12, "year(60)", x.year(60) >= 0, true);
        check.due(12, "is(0)", x.is(0), 61);
        check.due(12, "about(3)", x.about(3), 30);
        ItalicsLean y = new ItalicsLean();
        check.due(12, "year(2) without people", y.year(2), 0);
        check.due(12, "is(0)", y.is(0), 2);
        ItalicsLean z = Check.people(1, 0);
        Check.read(z, "leans left;");
        z.by(0);
        // Seat 0 has nobody to the left, so it is straight when seat 1 looks.
        check.due(12, "year(1): one by one from seat 0 on", z.year(1), 1);
        check.due(12, "of(1, 0)", z.of(1, 0), 0);
    }

    private static void lastYears() {
        ItalicsLean x = new ItalicsLean();
        for (int i = 0; i < 166; i++) {
            x.year(60);
        }
        check.due(12, "is(0)", x.is(0), 9960);
        check.due(12, "year(40)", x.year(40), -1);
        check.due(12, "is(0)", x.is(0), 9960);
        check.due(12, "year(39)", x.year(39), 0);
        check.due(12, "is(0)", x.is(0), 9999);
        int drawn = x.is(1);
        check.due(12, "year(1)", x.year(1), -1);
        check.due(12, "is(1)", x.is(1), drawn);
        check.due(14, "ages(3, 40): no year can pass", x.ages(3, 40), 9999);
        x.undo();
        x.person(4, 1);
        check.due(21, "foretold(60, 0): none can pass", x.foretold(60, 0), 4);
        check.due(22, "still(0, false): years in mind alone", x.still(0, false), 4);
        x.undo();
        x.undo();
        check.due(15, "is(0)", x.is(0), 9997);
        Check.read(x, "turn 1; year 60; turn 1;");
        check.due(13, "played(0): two can pass of sixty", x.played(0), 1);
        check.due(13, "is(0)", x.is(0), 9999);
        x.undo();
        x.undo();
        Check.read(x, "year 2; turn 1;");
        check.due(13, "played(1): just enough", x.played(1), -1);
        check.due(13, "is(0)", x.is(0), 9999);
    }

    private static void ages() {
        ItalicsLean x = Check.people(3, -4, 1);
        check.due(14, "ages(-1, 1)", x.ages(-1, 1), -1);
        check.due(14, "ages(10000, 1)", x.ages(10000, 1), -1);
        check.due(14, "ages(0, 0)", x.ages(0, 0), -1);
        check.due(14, "ages(0, 41)", x.ages(0, 41), -1);
        check.due(14, "about(3)", x.about(3), 0);
        // 317 mod 7 is 2: a prop at seat 317 mod 3, that is 2; then 29313 mod 7 is 4: a year.
        check.due(14, "ages(0, 2)", x.ages(0, 2), 1);
        check.due(14, "is(3)", x.is(3), 4);
        check.due(14, "about(3): one step", x.about(3), 1);
        check.due(14, "is(1): three draws", x.is(1), 9560);
        x.undo();
        check.due(14, "is(3) taken back", x.is(3), 0);
        // SEED 3: 323 mod 7 is 1, 323 / 7 is 46, mod 3 is 1: turned by 2.
        x.ages(3, 1);
        check.due(14, "turned: seat(0, 0)", x.seat(0, 0), 1);
        check.due(14, "turned: of(0, 0)", x.of(0, 0), -3);
        check.due(14, "turned: of(2, 0)", x.of(2, 0), 1);
        x.undo();
        // SEED 6: 329 is 47 times 7; seats 329 mod 3 = 2 and 47 mod 3 = 2 are one: nothing but a step.
        x.ages(6, 1);
        check.due(14, "one seat: seat(2, 0)", x.seat(2, 0), 2);
        check.due(14, "one seat: about(3)", x.about(3), 1);
        x.undo();
        // SEED 13: 343 is 49 times 7; seats 343 mod 3 = 1 and 49 mod 3 = 1. SEED 20: 357, 51: 0, 0.
        // SEED 41: 399 is 57 times 7: seats 0 and 0. SEED 48: 413 is 59 times 7: seats 2 and 2.
        x.person(0, 1);
        // With four people, SEED 6: seats 329 mod 4 = 1 and 47 mod 4 = 3.
        x.ages(6, 1);
        check.due(14, "swapped: seat(1, 0)", x.seat(1, 0), 3);
        check.due(14, "swapped: seat(3, 0)", x.seat(3, 0), 1);
        x.undo();
        // SEED 4: 325 mod 7 is 3: the prop at seat 325 mod 4 = 1 goes.
        x.prop(1, true);
        x.ages(4, 1);
        check.due(14, "freed: is(3)", x.is(3), 0);
        check.due(14, "is(1)", x.is(1), (325 * 577 + 449) % 30809);
    }

    private static void agesWithNobody() {
        ItalicsLean x = new ItalicsLean();
        check.due(14, "ages(0, 1) without people", x.ages(0, 1), 0);
        check.due(14, "is(3)", x.is(3), 0);
        check.due(14, "ages(0, 40) without people", x.ages(0, 40) > 0, true);
        check.due(14, "about(3)", x.about(3), 2);
    }

    private static void undoing() {
        ItalicsLean x = Check.people(2, -3);
        check.due(15, "undo() without steps", x.undo(), -1);
        x.year(3);
        check.due(15, "of(0, 0)", x.of(0, 0), 5);
        check.due(15, "undo()", x.undo(), 2);
        check.due(15, "is(0)", x.is(0), 2);
        x.undo();
        check.due(15, "undo()", x.undo(), 0);
        check.due(15, "is(0)", x.is(0), 0);
        check.due(15, "is(1)", x.is(1), 317);
        check.due(15, "is(2)", x.is(2), 0);
        check.due(15, "of(1, 0)", x.of(1, 0), -3);
        x.swap(0, 1);
        x.turn(2);
        x.prop(1, true);
        x.undo();
        check.due(15, "is(3)", x.is(3), 0);
        x.undo();
        check.due(15, "of(1, 0)", x.of(1, 0), -3);
        check.due(15, "seat(0, 0)", x.seat(0, 0), 1);
        x.undo();
        check.due(15, "seat(0, 0)", x.seat(0, 0), 0);
        check.due(15, "undo()", x.undo(), -1);
        x.prop(1, true);
        x.year(1);
        x.prop(0, true);
        x.undo();
        x.undo();
        check.due(15, "is(3): the prop that was", x.is(3), 2);
        ItalicsLean y = Check.people(-1);
        y.year(1);
        check.due(15, "book(NONE, 0)", y.book(-1, 0), 1);
        y.undo();
        check.due(15, "book(NONE, 0): as ahead of it", y.book(-1, 0), 0);
    }

    private static void undoingWithPeopleToldSince() {
        ItalicsLean x = Check.people(2, 5);
        x.turn(2);
        x.person(-7, 3);
        x.swap(0, 2);
        x.person(6, 4);
        x.turn(4);
        check.due(15, "undo()", x.undo(), 2);
        check.due(15, "seat(0, 0)", x.seat(0, 0), 2);
        check.due(15, "of(3, 0)", x.of(3, 0), 6);
        x.undo();
        check.due(15, "seat(0, 0)", x.seat(0, 0), 1);
        check.due(15, "seat(2, 0)", x.seat(2, 0), 2);
        check.due(15, "seat(3, 0)", x.seat(3, 0), 3);
        x.undo();
        check.due(15, "seat(0, 0)", x.seat(0, 0), 0);
        check.due(15, "seat(3, 0)", x.seat(3, 0), 3);
        check.due(15, "of(0, 0)", x.of(0, 0), 2);
        check.due(15, "of(2, 0): as told", x.of(2, 0), -7);
        check.due(15, "of(3, 1)", x.of(3, 1), 4);
        check.due(15, "about(0)", x.about(0), 4);
    }

    private static void thirtySteps() {
        ItalicsLean x = Check.people(1);
        for (int i = 0; i < 31; i++) {
            x.turn(1);
        }
        check.due(15, "about(3)", x.about(3), 30);
        for (int i = 29; i >= 0; i--) {
            check.due(15, "undo()", x.undo(), i);
        }
        check.due(15, "undo(): the 31st", x.undo(), -1);
        check.due(15, "of(0, 0): the first turn stays", x.of(0, 0), -1);
    }

    private static void people() {
        ItalicsLean x = new ItalicsLean();
        x.person(4, 7);
        x.person(-2, 3);
        x.swap(0, 1);
        check.due(16, "of(0, 0)", x.of(0, 0), 4);
        check.due(16, "of(0, 1)", x.of(0, 1), 7);
        check.due(16, "of(0, 2)", x.of(0, 2), 1);
        check.due(16, "of(0, 3): towards the wind", x.of(0, 3), 3);
        check.due(16, "of(1, 3)", x.of(1, 3), -1);
        check.due(16, "of(0, 4)", x.of(0, 4), -100);
        check.due(16, "of(0, -1)", x.of(0, -1), -100);
        check.due(16, "of(2, 0)", x.of(2, 0), -100);
        check.due(16, "of(-1, 0)", x.of(-1, 0), -100);
        x.prop(1, true);
        check.due(16, "of(0, 3): what leans says, propped or not", x.of(0, 3), 3);
    }

    private static void seats() {
        ItalicsLean x = Check.people(1, 2);
        x.rack(1, -6);
        x.rack(2, 5);
        x.prop(1, true);
        x.swap(0, 1);
        check.due(17, "seat(0, 0)", x.seat(0, 0), 1);
        check.due(17, "seat(1, 1)", x.seat(1, 1), -6);
        check.due(17, "seat(1, 2)", x.seat(1, 2), 1);
        check.due(17, "seat(0, 2)", x.seat(0, 2), 0);
        check.due(17, "seat(2, 1): not there", x.seat(2, 1), -100);
        check.due(17, "seat(-1, 0)", x.seat(-1, 0), -100);
        check.due(17, "seat(0, 3)", x.seat(0, 3), -100);
        check.due(17, "seat(0, -1)", x.seat(0, -1), -100);
        check.due(19, "is(3)", x.is(3), 2);
        check.due(19, "is(0)", x.is(0), 0);
        check.due(19, "is(1)", x.is(1), 317);
        check.due(19, "is(4)", x.is(4), -100);
        check.due(19, "is(-1)", x.is(-1), -100);
        x.year(1);
        check.due(19, "is(2)", x.is(2), 4);
    }

    private static void theBook() {
        ItalicsLean x = Check.people(0, -2, -1);
        x.year(2);
        check.due(20, "book(NONE, 0)", x.book(-1, 0), 2);
        check.due(20, "book(NONE, 9)", x.book(-1, 9), 2);
        check.due(20, "book(0, 0)", x.book(0, 0), 0);
        check.due(20, "book(0, 1)", x.book(0, 1), 2);
        check.due(20, "book(0, 2)", x.book(0, 2), 4);
        check.due(20, "book(1, 0)", x.book(1, 0), 1);
        check.due(20, "book(1, 1)", x.book(1, 1), 1);
        check.due(20, "book(1, 2)", x.book(1, 2), 29313 % 19 - 9);
        check.due(20, "book(2, 0)", x.book(2, 0), -100);
        check.due(20, "book(-2, 0)", x.book(-2, 0), -100);
        check.due(20, "book(0, 3)", x.book(0, 3), -100);
        check.due(20, "book(0, -1)", x.book(0, -1), -100);
    }

    private static void theBookKeepsThirty() {
        ItalicsLean x = Check.people(1, 1, 1);
        Check.read(x, "leans 1 - slant * slant;");
        x.by(0);
        // Each is straight in every second year: three of a year in the even ones.
        check.due(12, "year(19)", x.year(19), 30);
        check.due(20, "book(NONE, 0)", x.book(-1, 0), 30);
        check.due(20, "book(0, 0)", x.book(0, 0), 0);
        check.due(12, "year(2)", x.year(2), 3);
        check.due(20, "book(NONE, 0)", x.book(-1, 0), 30);
        check.due(20, "book(0, 0)", x.book(0, 0), 2);
        check.due(20, "book(29, 0)", x.book(29, 0), 20);
        check.due(20, "book(29, 1)", x.book(29, 1), 2);
        check.due(45, "ledger(0)", x.ledger(0), 10);
        x.undo();
        check.due(15, "book(0, 0): the eldest come back", x.book(0, 0), 0);
    }
}
