import java.util.Arrays;

/** Terms III and promises 21 to 30: what comes, what is still, turns, seats, ragged neighbours, pages. */
final class EdgesOfWhatComes {
    private static final int NONE = ItalicsLean.NONE;
    private final Edges doc;

    EdgesOfWhatComes(Edges doc) {
        this.doc = doc;
    }

    void all() {
        termsIIINothingChanges();
        termsIIIForetold();
        promise21Foretold();
        termsIIIStill();
        termsIIIStill200();
        promise22Still();
        termsIIIUpright();
        promise23Upright();
        termsIIIByTurns();
        promise24ByTurns();
        termsIIISeated();
        promise25Seats();
        termsIIIRagged();
        promise26Ragged();
        termsIIIPage();
        termsIIIPageOfLikeOnes();
        termsIIIPageWithoutWords();
        promise27Word();
        promise28Page();
        promise29Line();
        termsIIINarrowest();
        promise30Narrowest();
    }

    private void termsIIINothingChanges() {
        doc.terms("III", "All that follows changes nothing but what is told.");
        ItalicsLean x = Check.people(4, -3, 2, -1, 0);
        x.by(Check.read(x, "leans if slant = 0 then left else step slant to wind end; hears word / 2 + from;"));
        x.swap(1, 4);
        x.prop(2, true);
        x.year(3);
        x.word(3);
        x.word(7);
        x.heard(0, 20);
        x.said(1, 3);
        x.bar(0, true);
        Check.tape(x, "turn 0;");
        String before = Look.all(x);
        ask(x);
        doc.same("all, behind all questions", Look.all(x), before);
        x.undo();
        x.undo();
        x.undo();
        doc.due("is(0): the STEPS are as they were", x.is(0), 0);
        doc.due("is(1)", x.is(1), 317);
        doc.due("is(3)", x.is(3), 4);
    }

    private static void ask(ItalicsLean x) {
        for (int i = -1; i < 2; i++) {
            x.foretold(60, i);
            x.still(i, true);
            x.still(i, false);
            x.upright(i, 9);
            x.byTurns(i);
            x.seats(i < 0, i);
            x.ragged(i);
            x.page(12, i);
            x.line(12, i);
            x.narrowest(i);
            x.meant(9, i);
            x.listen(i);
            x.quarrel(i, 0);
            x.ledger(i);
            x.likely(i, 20, 0, true);
            x.first(i, 20, true);
        }
        x.props(true);
        x.props(false);
        x.median();
        x.spread();
        x.whose();
        x.straight();
        x.steepest();
    }

    private void termsIIIForetold() {
        doc.terms("III", "FORETOLD behind n YEARS (1 .. 60; those that can pass), nothing else being done.");
        ItalicsLean x = Check.people(3, -9, 0);
        x.prop(2, true);
        int[][] wants = new int[61][3];
        for (int n = 1; n <= 60; n++) {
            for (int person = 0; person < 3; person++) {
                wants[n][person] = x.foretold(n, person);
            }
        }
        for (int n = 1; n <= 60; n++) {
            x.year(1);
            for (int person = 0; person < 3; person++) {
                doc.due("foretold(" + n + ", " + person + ")", wants[n][person], x.of(person, 0));
            }
        }
        ItalicsLean y = EdgesOfPeople.late(9997);
        y.person(9, 1);
        y.by(Check.read(y, "leans slant - 1;"));
        doc.due("foretold(1, 0) at 9997", y.foretold(1, 0), 8);
        doc.due("foretold(2, 0) at 9997", y.foretold(2, 0), 7);
        doc.due("foretold(3, 0) at 9997: two can pass", y.foretold(3, 0), 7);
        doc.due("foretold(60, 0) at 9997: two can pass", y.foretold(60, 0), 7);
        y.year(2);
        doc.due("foretold(60, 0) at 9999: none can pass", y.foretold(60, 0), 7);
    }

    private void promise21Foretold() {
        doc.says(21, "FORETOLD: SLANT.");
        ItalicsLean x = Check.people(3, -1);
        doc.due("foretold(1, 0)", x.foretold(1, 0), 4);
        doc.due("foretold(1, 1)", x.foretold(1, 1), 0);
        doc.due("foretold(2, 0)", x.foretold(2, 0), 5);
        doc.says(21, "-100 for others.");
        doc.due("foretold(0, 0)", x.foretold(0, 0), -100);
        doc.due("foretold(-1, 0)", x.foretold(-1, 0), -100);
        doc.due("foretold(61, 0)", x.foretold(61, 0), -100);
        doc.due("foretold(60, 0)", x.foretold(60, 0) != -100, true);
        doc.due("foretold(1, 2): not there", x.foretold(1, 2), -100);
        doc.due("foretold(1, -1)", x.foretold(1, -1), -100);
        for (int wild : Edges.WILD) {
            doc.due("foretold(" + wild + ", 0)", x.foretold(wild, 0), -100);
            doc.due("foretold(1, " + wild + ")", x.foretold(1, wild), -100);
        }
        doc.due("foretold(1, 0) of nobody", new ItalicsLean().foretold(1, 0), -100);
        doc.due("foretold(0, 0) at 9999", EdgesOfPeople.late(9999).foretold(0, 0), -100);
    }

    private void still(ItalicsLean x, int wind, int behind, int ring) {
        doc.due("still(" + wind + ", false)", x.still(wind, false), behind);
        doc.due("still(" + wind + ", true)", x.still(wind, true), ring);
    }

    private void termsIIIStill() {
        doc.terms("III", "STILL by a WIND (the same in all YEARS, YEAR being as now in laws):");
        ItalicsLean x = Check.people(9);
        still(x, 9, 0, 1);
        still(x, -9, 18, 1);
        still(x, 0, 9, 1);
        x.by(Check.read(x, "leans slant - wind;"));
        still(x, 0, 0, 1);
        still(x, 1, 18, 1);
        still(x, 9, 2, 1);
        x.by(Check.read(x, "leans slant - year;"));
        still(x, 5, 0, 1);
        x.prop(0, true);
        x.year(2);
        x.prop(0, false);
        still(x, 5, 9, 1);
        ItalicsLean late = EdgesOfPeople.late(9999);
        late.person(4, 1);
        still(late, 0, 4, 1);
        ItalicsLean propped = Check.people(9, 5);
        propped.prop(0, true);
        still(propped, 0, 5, 1);
        propped.prop(1, true);
        still(propped, 0, 0, 1);
        still(new ItalicsLean(), 0, 0, 1);
    }

    /** A ring of 190 (19 by 5 by 2), and one more that rests behind so many years. */
    private static ItalicsLean ringOf190(int restsBehind) {
        ItalicsLean x = new ItalicsLean();
        x.person(0, 1);
        x.person(0, 4);
        x.person(0, 1);
        int begins = restsBehind > 9 ? -9 : 0;
        x.person(begins, 1);
        x.by(Check.read(x, "leans if who = 3 then step slant to " + (begins + restsBehind)
                + " else if who = 0 then if slant = 9 then -9 else slant + 1 end "
                + "else if slant >= weight then 0 else slant + 1 end end end;"));
        return x;
    }

    private void termsIIIStill200() {
        doc.terms("III", "SLANTS of all come again sooner or later: behind how many YEARS they first are as they will be again, "
                + "after how many more they are so (200 at most, both together; no draws).");
        ItalicsLean x = Check.people(0);
        x.by(Check.read(x, "leans if slant < 5 then slant + 1 else 2 end;"));
        still(x, 0, 2, 4);
        x.by(Check.read(x, "leans -slant;"));
        still(x, 0, 0, 1);
        ItalicsLean y = Check.people(3);
        y.by(Check.read(y, "leans -slant;"));
        still(y, 0, 0, 2);
        ItalicsLean all = Check.people(9, -9);
        still(all, 9, 18, 1);
        still(ringOf190(9), 0, 9, 190);
        still(ringOf190(10), 0, 10, 190);
        still(ringOf190(11), 0, NONE, NONE);
        still(ringOf190(12), 0, NONE, NONE);
        ItalicsLean draws = Check.people(0);
        draws.by(Check.read(draws, "leans wind;"));
        still(draws, 7, 1, 1);
        doc.due("is(1): no draws", draws.is(1), 317);
    }

    private void promise22Still() {
        doc.says(22, "STILL: behind how many YEARS (cycle false), how long the ring is (cycle true).");
        ItalicsLean x = Check.people(-9, 9);
        still(x, -9, 18, 1);
        still(x, 9, 18, 1);
        still(x, 0, 9, 1);
        doc.says(22, "NONE: not in 200, and for others (-9 .. 9).");
        still(ringOf190(11), 0, NONE, NONE);
        still(x, 10, NONE, NONE);
        still(x, -10, NONE, NONE);
        for (int wild : Edges.WILD) {
            still(x, wild, NONE, NONE);
        }
        still(new ItalicsLean(), 10, NONE, NONE);
    }

    /** Person 0 comes to 0 in so many years, counting by a second one that goes from 0 to 9 and back to 0. */
    private static ItalicsLean slow(int tens, int ones) {
        ItalicsLean x = new ItalicsLean();
        x.person(-tens, 1);
        x.person(ones, 1);
        x.by(Check.read(x, "leans if who = 0 then if right = 0 then slant + 1 else slant end "
                + "else if slant = 0 then 9 else slant - 1 end end;"));
        return x;
    }

    private void termsIIIUpright() {
        doc.terms("III", "UPRIGHT: likewise in how many YEARS (0 .. 60) a PERSON first stands straight (SLANT 0).");
        ItalicsLean x = Check.people(0, 9, -9, 1);
        doc.due("upright(0, 9): it is so", x.upright(0, 9), 0);
        doc.due("upright(1, -9)", x.upright(1, -9), 9);
        doc.due("upright(2, 9)", x.upright(2, 9), 9);
        doc.due("upright(3, 0)", x.upright(3, 0), 1);
        doc.due("upright(1, 1): never", x.upright(1, 1), NONE);
        // The second one is at 0 in its own year ones, and ten years later each time.
        doc.due("upright(0, 0)", slow(6, 8).upright(0, 0), 59);
        doc.due("upright(0, 0)", slow(6, 9).upright(0, 0), 60);
        doc.due("upright(0, 0)", slow(7, 0).upright(0, 0), NONE);
        ItalicsLean y = Check.people(6);
        y.by(Check.read(y, "leans slant - year;"));
        doc.due("upright(0, 0): YEAR as now", y.upright(0, 0), NONE);
        y.prop(0, true);
        y.year(1);
        doc.due("upright(0, 0): PROPPED", y.upright(0, 0), NONE);
        y.prop(0, false);
        doc.due("upright(0, 0): YEAR as now", y.upright(0, 0), 6);
        ItalicsLean late = EdgesOfPeople.late(9999);
        late.person(5, 1);
        doc.due("upright(0, 0) at 9999", late.upright(0, 0), 5);
    }

    private void promise23Upright() {
        doc.says(23, "UPRIGHT: in how many YEARS.");
        ItalicsLean x = Check.people(3, -4);
        doc.due("upright(0, 0)", x.upright(0, 0), 3);
        doc.due("upright(1, 9)", x.upright(1, 9), 4);
        doc.says(23, "NONE: not in 60, and for others.");
        doc.due("upright(0, 9): not in 60", x.upright(0, 9), NONE);
        doc.due("upright(0, -9)", x.upright(0, -9), 3);
        doc.due("upright(0, -10)", x.upright(0, -10), NONE);
        doc.due("upright(1, 10)", x.upright(1, 10), NONE);
        doc.due("upright(2, 0): not there", x.upright(2, 0), NONE);
        doc.due("upright(-1, 0)", x.upright(-1, 0), NONE);
        for (int wild : Edges.WILD) {
            doc.due("upright(" + wild + ", 0)", x.upright(wild, 0), NONE);
            doc.due("upright(0, " + wild + ")", x.upright(0, wild), NONE);
        }
        ItalicsLean straight = Check.people(0);
        doc.due("upright(0, 10) of one that is straight", straight.upright(0, 10), NONE);
        doc.due("upright(0, 0) of nobody", new ItalicsLean().upright(0, 0), NONE);
    }

    /** Whether such turns bring all from these seats to sit by number, each turned evenly often. */
    private static boolean sorts(int[] sitting, int[] turns) {
        int[] seats = sitting.clone();
        int turned = 0;
        for (int n : turns) {
            for (int low = 0, high = n - 1; low < high; low++, high--) {
                int who = seats[low];
                seats[low] = seats[high];
                seats[high] = who;
            }
            for (int i = 0; i < n; i++) {
                turned ^= 1 << seats[i];
            }
        }
        for (int i = 0; i < seats.length; i++) {
            if (seats[i] != i) {
                return false;
            }
        }
        return turned == 0;
    }

    /** All rows of turns, the shortest first, the lowest first: the first that sorts. */
    private static int[] sought(int[] sitting) {
        for (int length = 0; length < 10; length++) {
            int[] turns = new int[length];
            Arrays.fill(turns, 1);
            while (true) {
                if (sorts(sitting, turns)) {
                    return turns;
                }
                int at = length - 1;
                while (at >= 0 && turns[at] == sitting.length) {
                    turns[at] = 1;
                    at--;
                }
                if (at < 0) {
                    break;
                }
                turns[at]++;
            }
        }
        return new int[0];
    }

    private void byTurnsFrom(int... swaps) {
        int people = swaps.length;
        ItalicsLean x = Check.people(new int[people]);
        for (int i = 0; i < people; i++) {
            x.swap(i, swaps[i]);
        }
        int[] sitting = new int[people];
        for (int i = 0; i < people; i++) {
            sitting[i] = x.seat(i, 0);
        }
        int[] wants = sought(sitting);
        String from = " from " + Arrays.toString(sitting);
        doc.due("byTurns(NONE)" + from, x.byTurns(NONE), wants.length);
        for (int i = 0; i < wants.length; i++) {
            doc.due("byTurns(" + i + ")" + from, x.byTurns(i), wants[i]);
        }
        doc.due("byTurns(" + wants.length + ")" + from, x.byTurns(wants.length), -2);
    }

    private void termsIIIByTurns() {
        doc.terms("III", "BY TURNS: the fewest TURNS by which all sit by their numbers, each having been turned evenly often "
                + "(so that it leans as now):");
        for (int first = 0; first < 3; first++) {
            for (int second = 1; second < 3; second++) {
                byTurnsFrom(first, second, 2);
            }
        }
        for (int first = 0; first < 4; first++) {
            for (int second = 1; second < 4; second++) {
                byTurnsFrom(first, second, 3, 3);
            }
        }
        byTurnsFrom(1, 1, 2, 3, 4);
        byTurnsFrom(0, 1, 2, 4, 4);
        ItalicsLean x = Check.people(5);
        x.turn(1);
        doc.due("byTurns(NONE): it leans as now, whatever was", x.byTurns(NONE), 0);
        doc.terms("III", "of like ones the lowest first, then the next, .. (0: it is so; without PEOPLE 0).");
        byTurnsFrom(0);
        byTurnsFrom(0, 1);
        byTurnsFrom(1, 1);
        for (int people = 0; people <= 5; people++) {
            ItalicsLean y = Check.people(new int[people]);
            doc.due("byTurns(NONE) of " + people + " that sit so", y.byTurns(NONE), 0);
            doc.due("byTurns(0) of " + people + " that sit so", y.byTurns(0), -2);
        }
    }

    private void promise24ByTurns() {
        doc.says(24, "BY TURNS: how many (i NONE), the i-th.");
        ItalicsLean x = Check.people(1, 2);
        x.swap(0, 1);
        doc.due("byTurns(NONE)", x.byTurns(NONE), 3);
        doc.due("byTurns(0)", x.byTurns(0), 1);
        doc.due("byTurns(1)", x.byTurns(1), 2);
        doc.due("byTurns(2)", x.byTurns(2), 1);
        doc.says(24, "-2: none, there is none such, and for others.");
        doc.due("byTurns(3)", x.byTurns(3), -2);
        doc.due("byTurns(-2)", x.byTurns(-2), -2);
        for (int wild : Edges.WILD) {
            doc.due("byTurns(" + wild + ")", x.byTurns(wild), -2);
        }
        doc.due("byTurns(0) of nobody", new ItalicsLean().byTurns(0), -2);
        x.person(3, 1);
        x.person(4, 1);
        doc.due("byTurns(NONE) with two more", x.byTurns(NONE) >= 3, true);
        doc.due("byTurns(-2)", x.byTurns(-2), -2);
        x.back();
        doc.due("byTurns(NONE) of nobody any more", x.byTurns(NONE), 0);
    }

    private void seated(ItalicsLean x, int sum, int... who) {
        doc.due("seats(true, 0)", x.seats(true, 0), sum);
        for (int i = 0; i < who.length; i++) {
            doc.due("seats(false, " + i + ")", x.seats(false, i), who[i]);
        }
    }

    private void termsIIISeated() {
        doc.terms("III", "SEATED: who should sit where, so that WEIGHT by how far SLANT is from RACK, all together, is least;");
        ItalicsLean x = new ItalicsLean();
        int[] slants = {9, -9, 0, 5, -5};
        int[] racks = {-9, -5, 0, 5, 9};
        for (int i = 0; i < 5; i++) {
            x.person(slants[i], 9 - i);
            x.rack(i, racks[i]);
        }
        seated(x, 0, 1, 4, 2, 3, 0);
        x.swap(0, 4);
        seated(x, 0, 1, 4, 2, 3, 0);
        ItalicsLean far = new ItalicsLean();
        for (int i = 0; i < 5; i++) {
            far.person(9, 9);
            far.rack(i, -9);
        }
        seated(far, 5 * 9 * 18, 0, 1, 2, 3, 4);
        ItalicsLean heavy = new ItalicsLean();
        heavy.person(4, 1);
        heavy.person(4, 9);
        heavy.rack(1, -4);
        heavy.rack(0, 4);
        seated(heavy, 8, 1, 0);
        ItalicsLean one = Check.people(-9);
        one.rack(0, 9);
        seated(one, 18, 0);
        one.rack(1, 5);
        seated(one, 18, 0);
        doc.terms("III", "of like ones the lowest PERSON in SEAT 0, then in 1, ...");
        ItalicsLean alike = Check.people(3, 3, 3, 3, 3);
        alike.swap(0, 4);
        alike.swap(1, 2);
        seated(alike, 15, 0, 1, 2, 3, 4);
        ItalicsLean y = Check.people(1, 5, 5, 1);
        y.rack(0, 5);
        y.rack(1, 1);
        y.rack(2, 5);
        y.rack(3, 1);
        seated(y, 0, 1, 0, 2, 3);
    }

    private void promise25Seats() {
        doc.says(25, "SEATED: the sum (sum true), who sits in SEAT i.");
        ItalicsLean x = Check.people(5, -3);
        x.rack(0, -3);
        x.rack(1, 4);
        seated(x, 1, 1, 0);
        doc.says(25, "-2 for others, or without PEOPLE.");
        doc.due("seats(false, 2): not there", x.seats(false, 2), -2);
        doc.due("seats(false, -1)", x.seats(false, -1), -2);
        for (int wild : Edges.WILD) {
            doc.due("seats(false, " + wild + ")", x.seats(false, wild), -2);
        }
        doc.due("seats(false, 5) of five", Check.people(1, 2, 3, 4, 5).seats(false, 5), -2);
        ItalicsLean nobody = new ItalicsLean();
        nobody.rack(0, 5);
        doc.due("seats(true, 0) without PEOPLE", nobody.seats(true, 0), -2);
        doc.due("seats(false, 0) without PEOPLE", nobody.seats(false, 0), -2);
        doc.due("seats(true, -1) without PEOPLE", nobody.seats(true, -1), -2);
    }

    private void termsIIIRagged() {
        doc.terms("III", "RAGGED: neighbours of which the left one leans to the right (above 0) and the right one to the left "
                + "(below 0).");
        int[] slants = {-9, -1, 0, 1, 9};
        for (int left : slants) {
            for (int right : slants) {
                ItalicsLean x = Check.people(left, right);
                doc.due("ragged(NONE) of " + left + ", " + right, x.ragged(NONE), left > 0 && right < 0 ? 1 : 0);
            }
        }
        ItalicsLean y = Check.people(1, -1, 1, -1, 1);
        doc.due("ragged(NONE)", y.ragged(NONE), 2);
        doc.due("ragged(NONE): not neighbours", Check.people(1, 0, -1).ragged(NONE), 0);
        y.swap(0, 1);
        doc.due("ragged(NONE): by SEATS", y.ragged(NONE), 1);
        doc.due("ragged(0)", y.ragged(0), 2);
    }

    private void promise26Ragged() {
        doc.says(26, "RAGGED: how many neighbours lean towards one another (i NONE), the SEAT of the left one of the i-th pair.");
        ItalicsLean x = Check.people(5, -5, 0, 5, -5);
        doc.due("ragged(NONE)", x.ragged(NONE), 2);
        doc.due("ragged(0): the first SEAT", x.ragged(0), 0);
        doc.due("ragged(1): the last pair", x.ragged(1), 3);
        doc.due("ragged(NONE) of nobody", new ItalicsLean().ragged(NONE), 0);
        doc.due("ragged(NONE) of one", Check.people(5).ragged(NONE), 0);
        doc.says(26, "-2 if there is none such.");
        doc.due("ragged(2)", x.ragged(2), -2);
        doc.due("ragged(-2)", x.ragged(-2), -2);
        for (int wild : Edges.WILD) {
            doc.due("ragged(" + wild + ")", x.ragged(wild), -2);
        }
        doc.due("ragged(0) of nobody", new ItalicsLean().ragged(0), -2);
        doc.due("ragged(0) of one", Check.people(5).ragged(0), -2);
    }

    private static ItalicsLean words(int... widths) {
        ItalicsLean x = new ItalicsLean();
        for (int width : widths) {
            x.word(width);
        }
        return x;
    }

    /** The page of that width: its badness, and the words that its lines begin with. */
    private void page(ItalicsLean x, int width, int badness, int... begins) {
        doc.due("page(" + width + ", 0)", x.page(width, 0), badness);
        doc.due("page(" + width + ", 1)", x.page(width, 1), begins.length);
        for (int i = 0; i < begins.length; i++) {
            doc.due("line(" + width + ", " + i + ")", x.line(width, i), begins[i]);
        }
        doc.due("line(" + width + ", " + begins.length + ")", x.line(width, begins.length), NONE);
    }

    private void termsIIIPage() {
        doc.terms("III", "A PAGE of WORDS (10 at most; told: widths 1 .. 20) of a width:");
        ItalicsLean ten = words(20, 20, 20, 20, 20, 20, 20, 20, 20, 20);
        page(ten, 20, 0, 0, 1, 2, 3, 4, 5, 6, 7, 8, 9);
        page(ten, 41, 0, 0, 2, 4, 6, 8);
        page(ten, 60, 4 * 19 * 19, 0, 2, 4, 6, 8);
        doc.due("word(1): the eleventh", ten.word(1), -2);
        page(words(1, 1, 1, 1, 1, 1, 1, 1, 1, 1), 19, 0, 0);
        page(words(1), 1, 0, 0);
        doc.terms("III", "words in their order in lines, between two of a line 1 free;");
        page(words(3, 4), 8, 0, 0);
        page(words(3, 4), 7, 16, 0, 1);
        page(words(2, 5, 2), 8, 0, 0, 2);
        page(words(1, 1, 1), 5, 0, 0);
        page(words(1, 1, 1), 4, 1, 0, 2);
        doc.terms("III", "what is free at the end of each line but the last, by itself multiplied, all together is its badness: "
                + "the least;");
        page(words(5), 60, 0, 0);
        page(words(3, 9), 10, 49, 0, 1);
        page(words(1, 19, 1), 19, 18 * 18, 0, 1, 2);
        page(words(3, 2, 2, 5), 6, 10, 0, 1, 3);
        page(words(2, 3, 9), 9, 9, 0, 2);
        page(words(1, 10, 20, 20, 20, 20, 20, 20, 20, 1), 20, 64, 0, 2, 3, 4, 5, 6, 7, 8, 9);
    }

    private void termsIIIPageOfLikeOnes() {
        doc.terms("III", "of like ones the fewest lines, then the first line with the fewest words, then the next, ..");
        // 7 1 / 3 5 / 1 2 / 5 2 has 0 + 0 + 25; 7 / 1 3 / 5 1 / 2 5 / 2 has 4 + 16 + 4 + 1.
        page(words(7, 1, 3, 5, 1, 2, 5, 2), 9, 25, 0, 2, 4, 6);
        // 2 / 2 2 / 6 and 2 2 / 2 / 6 have 16 + 1.
        page(words(2, 2, 2, 6), 6, 17, 0, 1, 3);
        // Behind a line that is alike, the next one.
        page(words(6, 2, 2, 2, 6), 6, 17, 0, 1, 2, 4);
        page(words(6, 6, 2, 2, 2, 6), 6, 17, 0, 1, 2, 3, 5);
        // Twice over.
        page(words(2, 2, 2, 6, 2, 2, 2, 6), 6, 34, 0, 1, 3, 4, 5, 7);
    }

    private void termsIIIPageWithoutWords() {
        doc.terms("III", "(without words: 0, 0 lines; a word wider than the page: it can't be).");
        page(new ItalicsLean(), 1, 0);
        page(new ItalicsLean(), 60, 0);
        for (int place = 0; place < 3; place++) {
            int[] widths = {3, 3, 3};
            widths[place] = 4;
            ItalicsLean x = words(widths);
            doc.due("page(3, 0): the word " + place + " is wider", x.page(3, 0), NONE);
            doc.due("page(3, 1): the word " + place + " is wider", x.page(3, 1), NONE);
            doc.due("line(3, 0): the word " + place + " is wider", x.line(3, 0), NONE);
            doc.due("page(4, 1): none is wider", x.page(4, 1), 3);
        }
        doc.terms("III", "A LINE begins with a word (from 0).");
        ItalicsLean y = words(4, 4, 4);
        doc.due("line(4, 0)", y.line(4, 0), 0);
        doc.due("line(4, 2)", y.line(4, 2), 2);
        doc.due("line(9, 1)", y.line(9, 1), 2);
    }

    private void promise27Word() {
        doc.says(27, "A WORD of the page: how many there are (width NONE: none any more).");
        ItalicsLean x = new ItalicsLean();
        doc.due("word(NONE) without words", x.word(NONE), 0);
        for (int i = 1; i <= 10; i++) {
            doc.due("word(" + 2 * i + ")", x.word(2 * i), i);
        }
        doc.due("word(NONE) of ten", x.word(NONE), 0);
        doc.due("about(4)", x.about(4), 0);
        doc.due("page(1, 1): none any more", x.page(1, 1), 0);
        doc.due("word(1)", x.word(1), 1);
        doc.due("word(20)", x.word(20), 2);
        doc.says(27, "-2 for others (1 .. 20), or if there are 10.");
        doc.due("word(0)", x.word(0), -2);
        doc.due("word(21)", x.word(21), -2);
        doc.due("word(-2)", x.word(-2), -2);
        for (int wild : Edges.WILD) {
            doc.due("word(" + wild + ")", x.word(wild), -2);
        }
        doc.due("about(4)", x.about(4), 2);
        for (int i = 3; i <= 10; i++) {
            x.word(1);
        }
        doc.due("narrowest(1) of ten", x.narrowest(1), 38);
        doc.due("word(1): there are 10", x.word(1), -2);
        doc.due("word(20): there are 10", x.word(20), -2);
        doc.due("about(4)", x.about(4), 10);
        doc.due("narrowest(1) of ten", x.narrowest(1), 38);
        doc.due("word(NONE): there are 10", x.word(NONE), 0);
    }

    private void promise28Page() {
        doc.says(28, "A PAGE: 0 its badness, 1 how many lines.");
        ItalicsLean x = words(3, 4, 5);
        doc.due("page(8, 0)", x.page(8, 0), 0);
        doc.due("page(8, 1)", x.page(8, 1), 2);
        doc.due("page(5, 0)", x.page(5, 0), 5);
        doc.due("page(5, 1)", x.page(5, 1), 3);
        doc.due("page(60, 0)", x.page(60, 0), 0);
        doc.due("page(60, 1)", x.page(60, 1), 1);
        ItalicsLean fewer = words(3, 4, 5);
        page(fewer, 5, 5, 0, 1, 2);
        fewer.word(NONE);
        page(fewer, 5, 0);
        fewer.word(2);
        page(fewer, 5, 0, 0);
        doc.says(28, "NONE: it can't be, and for others (1 .. 60).");
        doc.due("page(4, 0): it can't be", x.page(4, 0), NONE);
        doc.due("page(1, 1): it can't be", x.page(1, 1), NONE);
        others(x);
        others(new ItalicsLean());
        doc.due("page(5, 2)", x.page(5, 2), NONE);
        doc.due("page(5, -1)", x.page(5, -1), NONE);
        for (int wild : Edges.WILD) {
            doc.due("page(5, " + wild + ")", x.page(5, wild), NONE);
        }
    }

    private void others(ItalicsLean x) {
        for (int what = 0; what < 2; what++) {
            doc.due("page(0, " + what + ")", x.page(0, what), NONE);
            doc.due("page(-1, " + what + ")", x.page(-1, what), NONE);
            doc.due("page(61, " + what + ")", x.page(61, what), NONE);
            for (int wild : Edges.WILD) {
                doc.due("page(" + wild + ", " + what + ")", x.page(wild, what), NONE);
            }
        }
    }

    private void promise29Line() {
        doc.says(29, "A LINE: the word it begins with.");
        ItalicsLean x = words(3, 4, 5);
        doc.due("line(5, 0)", x.line(5, 0), 0);
        doc.due("line(5, 1)", x.line(5, 1), 1);
        doc.due("line(5, 2)", x.line(5, 2), 2);
        doc.due("line(8, 1)", x.line(8, 1), 2);
        doc.due("line(60, 0)", x.line(60, 0), 0);
        doc.says(29, "NONE: there is none such, and for others.");
        doc.due("line(5, 3)", x.line(5, 3), NONE);
        doc.due("line(60, 1)", x.line(60, 1), NONE);
        doc.due("line(5, -1)", x.line(5, -1), NONE);
        doc.due("line(4, 0): it can't be", x.line(4, 0), NONE);
        doc.due("line(0, 0)", x.line(0, 0), NONE);
        doc.due("line(61, 0)", x.line(61, 0), NONE);
        for (int wild : Edges.WILD) {
            doc.due("line(" + wild + ", 0)", x.line(wild, 0), NONE);
            doc.due("line(5, " + wild + ")", x.line(5, wild), NONE);
        }
        doc.due("line(10, 0) without words", new ItalicsLean().line(10, 0), NONE);
    }

    private void termsIIINarrowest() {
        doc.terms("III", "NARROWEST: the least width by which words break into so many lines at most.");
        ItalicsLean x = words(3, 4, 5);
        doc.due("narrowest(1)", x.narrowest(1), 14);
        doc.due("narrowest(2)", x.narrowest(2), 8);
        doc.due("narrowest(3)", x.narrowest(3), 5);
        doc.due("narrowest(10): fewer lines than that", x.narrowest(10), 5);
        ItalicsLean wide = words(20, 20, 20, 20, 20, 20, 20, 20, 20, 20);
        int[] wants = {209, 104, 83, 62, 41, 41, 41, 41, 41, 20};
        for (int lines = 1; lines <= 10; lines++) {
            doc.due("narrowest(" + lines + ") of ten", wide.narrowest(lines), wants[lines - 1]);
        }
        doc.due("narrowest(2): the last line counts", words(2, 2, 9).narrowest(2), 9);
        doc.due("narrowest(2): the first line counts", words(9, 2, 2).narrowest(2), 9);
    }

    private void promise30Narrowest() {
        doc.says(30, "NARROWEST: the width.");
        doc.due("narrowest(1) of one word", words(1).narrowest(1), 1);
        doc.due("narrowest(10) of one word", words(20).narrowest(10), 20);
        doc.says(30, "NONE for others (1 .. 10), or without words.");
        ItalicsLean x = words(3, 4);
        doc.due("narrowest(0)", x.narrowest(0), NONE);
        doc.due("narrowest(-1)", x.narrowest(-1), NONE);
        doc.due("narrowest(11)", x.narrowest(11), NONE);
        for (int wild : Edges.WILD) {
            doc.due("narrowest(" + wild + ")", x.narrowest(wild), NONE);
        }
        x.word(NONE);
        doc.due("narrowest(1) without words", x.narrowest(1), NONE);
        doc.due("narrowest(10) without words", new ItalicsLean().narrowest(10), NONE);
    }
}
