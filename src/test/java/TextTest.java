import java.util.Arrays;

/** Promises 4 to 8, 13, 16 and 18: the tape, texts and their faults, laws, what is played. */
final class TextTest {
    private static final Check check = new Check("TextTest");

    public static void main(String[] args) {
        theTape();
        texts();
        faultsAreTold();
        cannotStand();
        noTokens();
        numbers();
        depths();
        twice();
        names();
        clauses();
        theLeast();
        ruling();
        played();
        playedByHand();
        arithmetic();
        logic();
        leansNames();
        hearing();
        check.finish();
    }

    private static void theTape() {
        ItalicsLean x = new ItalicsLean();
        check.due(5, "end(0)", x.end(0), 0);
        check.due(5, "end(1)", x.end(1), -1);
        for (int i = 1; i <= 15; i++) {
            check.due(4, "feed", x.feed(1, 2, 3, 4, 5), 20 * i);
        }
        check.due(4, "feed beyond 300", x.feed(1, 2, 3, 4, 5), -1);
        check.due(4, "about(7)", x.about(7), 300);
        check.due(5, "end(281)", x.end(281), 281);
        check.due(4, "feed beyond 300", x.feed(1, 2, 3, 4, 5), -1);
        check.due(5, "end(282)", x.end(282), -1);
        check.due(5, "end(-1)", x.end(-1), -1);
        check.due(5, "about(7)", x.about(7), 281);
        check.due(5, "end(280)", x.end(280), 280);
        check.due(4, "feed to 300", x.feed(1, 2, 3, 4, 5), 300);
        ItalicsLean y = new ItalicsLean();
        // "tur" and "n" and "1;" in five numbers: the highest byte is the first.
        check.due(4, "feed", y.feed(0x7475726E, 0x20313B20, 0x20202020, 0x20202020, 0x2020200A), 20);
        check.due(4, "text()", y.text(), 0);
        // A byte of 255 is no letter; the sign of a number must not spill.
        y.feed(0x2020FFFF, -1, -1, -1, -1);
        y.text();
        check.due(4, "fault(1)", y.fault(1), 2);
    }

    private static void texts() {
        ItalicsLean x = new ItalicsLean();
        check.due(6, "an empty text", x.text(), 0);
        check.due(6, "about(1)", x.about(1), 1);
        check.due(6, "text 1", Check.read(x, "turn 1;"), 1);
        check.due(6, "about(7): empty then", x.about(7), 0);
        check.due(6, "a fault", Check.read(x, "turn;"), -1);
        check.due(6, "about(7): empty then", x.about(7), 0);
        check.due(6, "about(1)", x.about(1), 2);
        check.due(6, "text 2", Check.read(x, " \n\n "), 2);
        check.due(6, "text 3", Check.read(x, "year\n60 ; free4;"), 3);
        check.due(6, "a fifth", Check.read(x, "turn;"), -1);
        check.due(6, "about(7): it stays", x.about(7), 5);
        check.due(7, "fault(0): the fifth was not read", x.fault(0), 0);
        ItalicsLean y = new ItalicsLean();
        byte[] full = new byte[300];
        Arrays.fill(full, (byte) ' ');
        Check.tape(y, full);
        check.due(6, "300 blanks", y.text(), 0);
    }

    private static void faultsAreTold() {
        ItalicsLean x = new ItalicsLean();
        check.due(7, "fault(0) ahead of any", x.fault(0), -1);
        check.due(7, "fault(1) ahead of any", x.fault(1), -1);
        Check.read(x, "turn 1");
        check.due(7, "fault(0)", x.fault(0), 1);
        check.due(7, "fault(1)", x.fault(1), 6);
        check.due(7, "fault(2)", x.fault(2), -1);
        check.due(7, "fault(-1)", x.fault(-1), -1);
        Check.read(x, "turn 1;");
        check.due(7, "fault(0)", x.fault(0), 0);
        check.due(7, "fault(1)", x.fault(1), -1);
    }

    /** Reads a text on an object of its own. */
    private static void fault(String text, int why, int place) {
        ItalicsLean x = new ItalicsLean();
        int number = Check.read(x, text);
        check.due(6, "text() of '" + text + "'", number, why == 0 ? 0 : -1);
        check.due(7, "fault(0) of '" + text + "'", x.fault(0), why);
        check.due(7, "fault(1) of '" + text + "'", x.fault(1), place);
    }

    private static void whole(String text) {
        fault(text, 0, -1);
    }

    private static void cannotStand() {
        fault(";", 1, 0);
        fault("1;", 1, 0);
        fault("lean 1;", 1, 0);
        fault("Leans 1;", 1, 0);
        fault("leansx 1;", 1, 0);
        whole("leans1;hears2;turn3;");
        for (char letter : "aAmMzZ".toCharArray()) {
            fault("leans" + letter + " 1;", 1, 0);
        }
        for (char none : "`{@[".toCharArray()) {
            fault("leans" + none + " 1;", 1, 5);
        }
        fault("turn 1/", 1, 6);
        fault("turn 1:", 1, 6);
        fault("leans ;", 1, 6);
        fault("leans 1", 1, 7);
        fault("leans 1  \n", 1, 10);
        fault("leans 1 2;", 1, 8);
        fault("leans 1 slant;", 1, 8);
        fault("leans foo;", 1, 6);
        fault("leans leans;", 1, 6);
        fault("leans (1;", 1, 8);
        fault("leans (1));", 1, 9);
        fault("leans ();", 1, 7);
        fault("leans 1 +;", 1, 9);
        fault("leans + 1;", 1, 6);
        fault("leans 1 * / 2;", 1, 10);
        whole("leans 1 * - 2;");
        whole("leans 1 - - 2;");
        fault("leans step 1 2;", 1, 13);
        fault("leans step 1 to;", 1, 15);
        fault("leans to;", 1, 6);
        fault("leans if 1 then 1 else 1 end;", 1, 11);
        fault("leans if 1 < 2 then 1 end;", 1, 22);
        fault("leans if 1 < 2 then 1 else 1;", 1, 28);
        fault("leans if 1 < 2 < 3 then 1 else 1 end;", 1, 15);
        fault("leans if (1 < 2) then 1 else 1 end;", 1, 12);
        whole("leans if (1) < (2) and not not 1 >= 2 or 3 # 4 then 1 else 1 end;");
        fault("leans if not 1 then 1 else 1 end;", 1, 15);
        fault("leans if 1 < = 2 then 1 else 1 end;", 1, 13);
        fault("leans if 1 =< 2 then 1 else 1 end;", 1, 12);
        fault("leans if 1 >< 2 then 1 else 1 end;", 1, 12);
        whole("leans if 1 <= 2 then 1 else 1 end;");
        fault("leans if 1 < 2 or then 1 else 1 end;", 1, 18);
        fault("leans not 1;", 1, 6);
        fault("leans 1 < 2;", 1, 8);
        fault("person 1;", 1, 8);
        fault("person 1 weight;", 1, 15);
        fault("person 1 at 1;", 1, 9);
        fault("rack 1 with 1;", 1, 7);
        fault("swap 1 to 2;", 1, 7);
        fault("swap 1 at 2;", 1, 7);
        fault("turn 1 + 1;", 1, 7);
        fault("turn -1;", 1, 5);
        fault("year (1);", 1, 5);
        fault("turn 1;;", 1, 7);
        fault("turn x;", 1, 5);
        fault("person 1 weight 1 turn 1;", 1, 18);
        fault("turn", 1, 4);
        whole("person 18 weight 9; rack 18 at 4; swap 0 with 4; turn 5; prop 4; free 0; year 60;");
        whole("swap 1 with 1;");
    }

    private static void noTokens() {
        fault("!", 1, 0);
        fault("turn 1; ?", 1, 8);
        fault("leans 1 & 2;", 1, 8);
        fault("leans\t1;", 1, 5);
        fault("leans 1;\r", 1, 8);
        fault("leans \u00e9;", 1, 6);
        fault("leans 1.5;", 1, 7);
        fault("leans wind_;", 1, 10);
        fault("leans 1\u0000;", 1, 7);
    }

    private static void numbers() {
        whole("leans 9999;");
        fault("leans 10000;", 2, 6);
        whole("leans 000000000000001;");
        fault("leans 99999999999999999999999999;", 2, 6);
        fault("turn 4294967297;", 2, 5);
        fault("turn 18446744073709551617;", 2, 5);
        whole("turn 0005;");
        fault("turn 0;", 2, 5);
        fault("turn 6;", 2, 5);
        fault("year 0;", 2, 5);
        fault("year 61;", 2, 5);
        fault("prop 5;", 2, 5);
        fault("free 5;", 2, 5);
        whole("prop 0; free 4;");
        fault("swap 5 with 0;", 2, 5);
        fault("swap 0 with 5;", 2, 12);
        fault("rack 19 at 0;", 2, 5);
        fault("rack 0 at 5;", 2, 10);
        fault("person 19 weight 1;", 2, 7);
        fault("person 0 weight 0;", 2, 16);
        fault("person 0 weight 10;", 2, 16);
        fault("person 19", 2, 7);
        fault("leans 10000 10000;", 2, 6);
    }

    private static void depths() {
        whole("leans ((((((((1))))))));");
        fault("leans (((((((((1)))))))));", 3, 14);
        whole("leans --------1;");
        fault("leans ---------1;", 3, 14);
        whole("leans 1--------1-1;");
        fault("leans 1----------1;", 3, 16);
        whole("leans seat seat seat seat seat seat seat seat 1;");
        fault("leans seat seat seat seat seat seat seat seat (1);", 3, 46);
        whole("leans step step step step step step step step 1 to 1 to 1 to 1 to 1 to 1 to 1 to 1 to 1;");
        fault("leans step step step step step step step step - 1", 3, 46);
        // The first step is open till its second is whole: eight within it are one too many.
        fault("leans step 1 to --------1;", 3, 23);
        whole("leans step 1 to -------1;");
        whole("leans (step ------1 to 1) + (((((((1)))))));");
        whole("leans if not not not not not not not 1 < 1 then 1 else 1 end;");
        fault("leans if not not not not not not not not 1 < 1 then 1 else 1 end;", 3, 37);
        whole("leans if not not not not not not not 1 < 1 and not not not not not not not 1 < 1 then 1 else 1 end;");
        whole("leans if 1 < 1 then -------1 else (((((((1))))))) end;");
        fault("leans if 1 < 1 then --------1 else 1 end;", 3, 27);
        fault("leans if 1 < 1 then 1 else --------1 end;", 3, 34);
        whole("leans if 1 < 1 then 1 else 1 end + ((((((((1))))))));");
        whole("leans 1 - 1 - 1 - 1 - 1 - 1 - 1 - 1 - 1 - 1 - 1;");
        whole("leans (1)+(1)+(1)+(1)+(1)+(1)+(1)+(1)+(1)+(1);");
    }

    private static void twice() {
        fault("leans 1; leans 2;", 4, 9);
        fault("hears 1; turn 1; hears 2;", 4, 17);
        whole("leans 1; hears 2;");
        fault("leans 1; hears 2; leans", 4, 18);
    }

    private static void names() {
        whole("leans year + wind + weight + who + slant + left + right;");
        whole("hears year + wind + weight + who + slant + word + from;");
        fault("leans word;", 5, 6);
        fault("leans 1 + from;", 5, 10);
        fault("hears left;", 5, 6);
        fault("hears (right;", 5, 7);
        fault("leans WIND;", 1, 6);
        fault("hears 1; leans word", 5, 15);
        fault("leans 1; hears left", 5, 15);
    }

    private static void clauses() {
        whole("turn 1;".repeat(24));
        fault("turn 1;".repeat(25), 6, 168);
        fault("turn 1;".repeat(24) + " year", 6, 169);
        whole("leans 1;hears 1;" + "turn 1;".repeat(22));
        fault("leans 1;hears 1;" + "turn 1;".repeat(22) + "prop 0;", 6, 170);
        fault("turn 1;".repeat(24) + "leans 1;", 6, 168);
    }

    private static void theLeast() {
        // A second leans that is the 25th clause: 4 is less than 6.
        fault("leans 1;" + "turn 1;".repeat(23) + "leans 2;", 4, 169);
        fault("turn 1;".repeat(24) + "foo", 1, 168);
        fault("turn 1;".repeat(24) + "10000", 1, 168);
        // A number too great where none can stand.
        fault("leans 1 10000;", 1, 8);
        fault("person 1 10000", 1, 9);
        // The ninth that is open, where it can't stand.
        fault("leans ((((((((1(", 1, 15);
        fault("leans ((((((((1 seat", 1, 16);
        // A name of the other law where none can stand.
        fault("leans 1 word;", 1, 8);
        fault("leans (((((((( word", 5, 15);
    }

    private static void ruling() {
        ItalicsLean x = Check.people(5);
        check.due(8, "by(0) without texts", x.by(0), false);
        check.due(8, "by(NONE)", x.by(-1), true);
        Check.read(x, "leans 7;");
        Check.read(x, "hears 7;");
        check.due(8, "about(2)", x.about(2), -1);
        check.due(8, "of(0, 3): none rules", x.of(0, 3), 4);
        check.due(8, "by(0)", x.by(0), true);
        check.due(8, "by(2)", x.by(2), false);
        check.due(8, "by(-2)", x.by(-2), false);
        check.due(8, "about(2)", x.about(2), 0);
        check.due(8, "of(0, 3)", x.of(0, 3), 7);
        check.due(8, "hears(0, 0, 3): without", x.hears(0, 0, 3), 3);
        check.due(8, "by(1)", x.by(1), true);
        check.due(8, "of(0, 3): without", x.of(0, 3), 4);
        check.due(8, "hears(0, 0, 3)", x.hears(0, 0, 3), 7);
        check.due(8, "by(NONE)", x.by(-1), true);
        check.due(8, "hears(0, 0, 3)", x.hears(0, 0, 3), 3);
        check.due(8, "about(3): no step", x.about(3), 0);
    }

    private static int play(ItalicsLean x, String text) {
        return x.played(Check.read(x, text));
    }

    private static void played() {
        ItalicsLean x = new ItalicsLean();
        check.due(13, "played(0) without texts", x.played(0), -2);
        check.due(13, "played(-1)", x.played(-1), -2);
        check.due(13, "played", play(x, "person 12 weight 2; person 0 weight 9; rack 0 at 4; swap 0 with 1; prop 1; year 2;"), -1);
        check.due(13, "of(0, 0): propped", x.of(0, 0), 3);
        check.due(13, "of(0, 1)", x.of(0, 1), 2);
        check.due(13, "of(0, 2)", x.of(0, 2), 1);
        check.due(13, "of(1, 0)", x.of(1, 0), -7);
        check.due(13, "is(0)", x.is(0), 2);
        check.due(13, "about(3): swap, prop, two years", x.about(3), 4);
        check.due(13, "played(0) again: person, person, rack and the swap go, the prop is there", x.played(0), 4);
        check.due(13, "about(0)", x.about(0), 4);
        check.due(13, "played(0): the fifth person goes, the sixth doesn't", x.played(0), 1);
        check.due(13, "about(0)", x.about(0), 5);
        check.due(13, "seat(4, 1)", x.seat(4, 1), -9);
        check.due(13, "of(4, 0)", x.of(4, 0), 3);
        check.due(13, "about(2): it doesn't rule", x.about(2), -1);
        check.due(13, "played(1)", x.played(1), -2);
    }

    private static void playedByHand() {
        ItalicsLean x = Check.people(1, 2);
        check.due(13, "laws count, but aren't done", play(x, "leans 5; turn 2; hears 1; turn 3; turn 1;"), 3);
        check.due(13, "of(0, 0): what was done stays", x.of(0, 0), -1);
        check.due(13, "swap with itself", play(x, "swap 1 with 1;"), 0);
        check.due(13, "swap beyond", play(x, "prop 0; swap 1 with 2;"), 1);
        check.due(13, "free", play(x, "free 0; free 0;"), 1);
        ItalicsLean z = Check.people(1, 2);
        Check.read(z, "turn 1; turn 3; turn");
        check.due(13, "what a faulty text left behind isn't played", play(z, "turn 1;"), -1);
        ItalicsLean y = Check.people(1);
        check.due(13, "nothing", play(y, ""), -1);
        check.due(13, "prop beyond", play(y, "prop 1;"), 0);
        check.due(13, "prop twice", play(y, "prop 0; prop 0;"), 1);
        check.due(13, "years", play(y, "leans 1 - slant; year 60; year 3;"), -1);
        check.due(13, "is(0)", y.is(0), 63);
    }

    /** What leans says of a person of slant 3, weight 4, with nobody beside it. */
    private static int leans(String sum) {
        ItalicsLean x = new ItalicsLean();
        x.person(3, 4);
        if (Check.read(x, "leans " + sum + ";") != 0) {
            throw new IllegalStateException(sum + ": fault " + x.fault(0) + " at " + x.fault(1));
        }
        x.by(0);
        return x.of(0, 3);
    }

    private static void sum(String sum, int want) {
        check.due(16, "leans " + sum, leans(sum), want);
    }

    private static void arithmetic() {
        sum("5", 5);
        sum("10", 9);
        sum("-10", -9);
        sum("2+3*2", 8);
        sum("(2+3)*-1", -5);
        sum("9-4-3", 2);
        sum("8/2/2", 2);
        sum("8/(2/2)", 8);
        sum("7/2", 3);
        sum("-7/2", -3);
        sum("7/-2", -3);
        sum("0-7/2", -3);
        sum("7/0", 0);
        sum("7/(1-1)+1", 1);
        sum("2*3/4*5", 5);
        sum("9999*9999-1000*1000", 0);
        sum("-9999*9999+1000*1000", 0);
        sum("1000*1000+5-1000*1000", 0);
        sum("-(1000*1000)-5+1000*1000", 0);
        sum("9999*9999*9999*9999/9999/100", 1);
        sum("9999*9999/1000/1000*7", 7);
        sum("9999*9999*(0-9999*9999)/9999/100", -1);
        sum("step 3 to 5", 4);
        sum("step 3 to 1", 2);
        sum("step 3 to 3", 3);
        sum("step -3 to -5", -4);
        sum("step 1 to 5 + 1", 3);
        sum("step step 1 to 9 to 9", 3);
        sum("step 1 to step 1 to 9", 2);
        sum("-step 1 to 5", -2);
        sum("- 2 * 3", -6);
        sum("seat 0", 3);
        sum("seat 1", 0);
        sum("seat -1", 0);
        sum("seat 0 + 1", 4);
        sum("seat 1000", 0);
        sum("--5", 5);
    }

    private static void logic() {
        sum("if 1 < 2 then 5 else 6 end", 5);
        sum("if 2 < 2 then 5 else 6 end", 6);
        sum("if 2 <= 2 then 5 else 6 end", 5);
        sum("if 3 <= 2 then 5 else 6 end", 6);
        sum("if 3 > 2 then 5 else 6 end", 5);
        sum("if 2 > 2 then 5 else 6 end", 6);
        sum("if 2 >= 2 then 5 else 6 end", 5);
        sum("if 1 >= 2 then 5 else 6 end", 6);
        sum("if 2 = 2 then 5 else 6 end", 5);
        sum("if 1 = 2 then 5 else 6 end", 6);
        sum("if 1 # 2 then 5 else 6 end", 5);
        sum("if 2 # 2 then 5 else 6 end", 6);
        sum("if not 2 # 2 then 5 else 6 end", 5);
        sum("if not not 2 # 2 then 5 else 6 end", 6);
        sum("if 1=1 or 1=1 and 1=2 then 5 else 6 end", 5);
        sum("if 1=2 and 1=1 or 1=2 then 5 else 6 end", 6);
        sum("if 1=2 and 1=2 or 1=1 then 5 else 6 end", 5);
        sum("if not 1=2 and 1=2 then 5 else 6 end", 6);
        sum("if not 1=1 or 1=1 then 5 else 6 end", 5);
        sum("if 1=1 then if 1=2 then 1 else 2 end else 3 end * 2", 4);
        sum("1 + if 1=2 then 1 else 2 end", 3);
        sum("if if 1=1 then 2 else 3 end = 2 then 7 else 8 end", 7);
        sum("if 1+1=2*1 then 1 else 0 end", 1);
    }

    private static void leansNames() {
        ItalicsLean x = new ItalicsLean();
        x.person(3, 4);
        x.person(-5, 6);
        x.person(7, 8);
        x.swap(0, 2);
        x.year(2);
        // Person 1 sits between 2 (to the left) and 0.
        int[] slants = {x.of(0, 0), x.of(1, 0), x.of(2, 0)};
        String[] names = {"year", "wind", "weight", "who", "slant", "left", "right", "seat 2"};
        int[] wants = {2, x.is(2), 6, 1, slants[1], slants[2], slants[0], slants[0]};
        for (int i = 0; i < names.length; i++) {
            x.image();
            x.by(Check.read(x, "leans " + names[i] + ";"));
            check.due(16, "of(1, 3) by " + names[i], x.of(1, 3), wants[i]);
            x.back();
        }
        x.by(Check.read(x, "leans left * 100 + right;"));
        check.due(16, "of(2, 3): nobody to the left", x.of(2, 3), slants[1]);
        check.due(16, "of(0, 3): nobody to the right", x.of(0, 3), -9);
        x.prop(0, true);
        x.prop(2, true);
        x.by(Check.read(x, "leans right;"));
        x.year(1);
        check.due(12, "of(1, 0) by right", x.of(1, 0), slants[0]);
    }

    private static void hearing() {
        ItalicsLean x = new ItalicsLean();
        x.person(3, 4);
        x.person(-5, 6);
        check.due(18, "hears(0, 1, 50)", x.hears(0, 1, 50), 42);
        check.due(18, "hears(1, 0, 50)", x.hears(1, 0, 50), 58);
        check.due(18, "hears(1, 1, 0)", x.hears(1, 1, 0), 0);
        check.due(18, "hears(0, 1, 99)", x.hears(0, 1, 99), 91);
        check.due(18, "hears(0, 1, 100)", x.hears(0, 1, 100), -10000);
        check.due(18, "hears(0, 1, -1)", x.hears(0, 1, -1), -10000);
        check.due(18, "hears(2, 1, 5)", x.hears(2, 1, 5), -10000);
        check.due(18, "hears(0, 2, 5)", x.hears(0, 2, 5), -10000);
        check.due(18, "hears(-1, 0, 5)", x.hears(-1, 0, 5), -10000);
        x.by(Check.read(x, "hears word * 100 + from * 10 + slant;"));
        check.due(18, "hears(0, 1, 2)", x.hears(0, 1, 2), 153);
        check.due(18, "hears(0, 1, 50): 999 at most", x.hears(0, 1, 50), 999);
        x.by(Check.read(x, "hears 0 - word * 100;"));
        check.due(18, "hears(0, 1, 50): -999 at least", x.hears(0, 1, 50), -999);
        x.by(Check.read(x, "hears who * 100 + weight * 10 + seat 0 + year + wind;"));
        check.due(18, "hears(1, 0, 50)", x.hears(1, 0, 50), 163);
    }
}
