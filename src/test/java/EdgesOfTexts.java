/** Terms II but laws (see EdgesOfLaws), promises 4 to 8 and 13: the tape, texts, their faults, what is played. */
final class EdgesOfTexts {
    private static final int NONE = ItalicsLean.NONE;
    private final Edges doc;

    EdgesOfTexts(Edges doc) {
        this.doc = doc;
    }

    void all() {
        promise4Feed();
        promise4FeedBeyond300();
        promise5End();
        promise6Text();
        promise6TextRefused();
        promise7Fault();
        promise8By();
        termsIITexts();
        termsIITokens();
        termsIISigns();
        termsIIClauses();
        termsIIDeeds();
        termsIIFaultsFirstAndWhere();
        termsIIOfOneTheLeast();
        termsIIFault1();
        termsIIFault2();
        termsIIFault3();
        termsIIFault3Closed();
        termsIIFault4();
        termsIIFault5();
        termsIIFault6();
        termsIIPlayed();
        termsIIPlayedEnds();
        termsIIPlayedYears();
        promise13Played();
    }

    private void fault(String text, int why, int place) {
        ItalicsLean x = new ItalicsLean();
        int number = Check.read(x, text);
        doc.due("text() of '" + text + "'", number, why == 0 ? 0 : NONE);
        doc.due("fault(0) of '" + text + "'", x.fault(0), why);
        doc.due("fault(1) of '" + text + "'", x.fault(1), place);
    }

    private void whole(String text) {
        fault(text, 0, NONE);
    }

    private static String blanks(int many) {
        return " ".repeat(many);
    }

    private void promise4Feed() {
        doc.says(4, "Twenty bytes come behind the tape, the highest of a first: how many it has.");
        ItalicsLean x = new ItalicsLean();
        // "person 18 weight 9; " and "person 0 weight 1;  ": twenty bytes each.
        doc.due("feed", x.feed(0x70657273, 0x6F6E2031, 0x38207765, 0x69676874, 0x20393B20), 20);
        doc.due("feed", x.feed(0x70657273, 0x6F6E2030, 0x20776569, 0x67687420, 0x313B2020), 40);
        doc.due("about(7)", x.about(7), 40);
        doc.due("text()", x.text(), 0);
        doc.due("played(0)", x.played(0), NONE);
        doc.due("of(0, 0)", x.of(0, 0), 9);
        doc.due("of(0, 1)", x.of(0, 1), 9);
        doc.due("of(1, 0)", x.of(1, 0), -9);
        ItalicsLean y = new ItalicsLean();
        doc.due("feed of bytes above 127", y.feed(0x20202020, 0x202020FF, -1, -1, -1), 20);
        y.text();
        doc.due("fault(1): at the first that is no blank", y.fault(1), 7);
        for (int i = 0; i < 20; i++) {
            ItalicsLean z = new ItalicsLean();
            byte[] bytes = blanks(20).getBytes();
            bytes[i] = (byte) 255;
            z.feed(Check.four(bytes, 0), Check.four(bytes, 4), Check.four(bytes, 8), Check.four(bytes, 12),
                    Check.four(bytes, 16));
            z.text();
            doc.due("fault(1): the byte " + i, z.fault(1), i);
        }
    }

    private void promise4FeedBeyond300() {
        doc.says(4, "NONE, and none come, if there would be more than 300.");
        ItalicsLean x = new ItalicsLean();
        for (int i = 1; i <= 15; i++) {
            doc.due("feed", x.feed(0x20202020, 0x20202020, 0x20202020, 0x20202020, 0x20202020), 20 * i);
        }
        doc.due("feed at 300", x.feed(-1, -1, -1, -1, -1), NONE);
        doc.due("about(7)", x.about(7), 300);
        x.end(281);
        doc.due("feed at 281", x.feed(-1, -1, -1, -1, -1), NONE);
        doc.due("about(7)", x.about(7), 281);
        doc.due("end(282): none came", x.end(282), NONE);
        doc.due("text(): blanks alone", x.text(), 0);
        ItalicsLean y = new ItalicsLean();
        Check.tape(y, blanks(280));
        doc.due("feed at 280", y.feed(0x20202020, 0x20202020, 0x20202020, 0x20202020, 0x20202021), 300);
        y.text();
        doc.due("fault(1): the 300th byte", y.fault(1), 299);
    }

    private void promise5End() {
        doc.says(5, "The tape has its first n bytes alone: n.");
        ItalicsLean x = new ItalicsLean();
        doc.due("end(0) of an empty tape", x.end(0), 0);
        Check.tape(x, "turn 1; turn 2; !!!!");
        doc.due("end(20): all", x.end(20), 20);
        doc.due("about(7)", x.about(7), 20);
        doc.due("end(16)", x.end(16), 16);
        doc.due("about(7)", x.about(7), 16);
        doc.due("feed behind them", x.feed(0x7475726E, 0x20333B20, 0x20202020, 0x20202020, 0x20202020), 36);
        doc.due("text(): what was cut is gone", x.text(), 0);
        Check.tape(x, "turn 1;");
        doc.due("end(0)", x.end(0), 0);
        doc.due("about(7)", x.about(7), 0);
        // A TOKEN ends where the tape does, whatever was behind it.
        cut("turnx 1;", 4, 1, 4);
        cut("leans 1; yearx", 13, 1, 13);
        cut("year 600;", 7, 1, 7);
        cut("leans if 1<=1 then 1 else 1 end;", 11, 1, 11);
        cut("leans if 1>=1 then 1 else 1 end;", 11, 1, 11);
        cut("turn 1; !", 8, 0, NONE);
        doc.says(5, "NONE, and nothing is done, if it has not so many, or n is below 0.");
        Check.tape(x, "turn 1; !");
        doc.due("end(10)", x.end(10), NONE);
        doc.due("about(7)", x.about(7), 9);
        doc.due("end(-1)", x.end(-1), NONE);
        doc.due("about(7)", x.about(7), 9);
        for (int wild : Edges.WILD) {
            doc.due("end(" + wild + ")", x.end(wild), NONE);
        }
        doc.due("about(7)", x.about(7), 9);
        x.end(8);
        doc.due("end(9): what was cut doesn't come back", x.end(9), NONE);
        doc.due("end(1) of an empty tape", new ItalicsLean().end(1), NONE);
        doc.due("text()", x.text(), 1);
    }

    private void cut(String text, int n, int why, int place) {
        ItalicsLean x = new ItalicsLean();
        Check.tape(x, text);
        doc.due("end(" + n + ") of '" + text + "'", x.end(n), n);
        doc.due("text()", x.text(), why == 0 ? 0 : NONE);
        doc.due("fault(0)", x.fault(0), why);
        doc.due("fault(1)", x.fault(1), place);
    }

    private void promise6Text() {
        doc.says(6, "The tape (empty then) is a TEXT: its number.");
        ItalicsLean x = new ItalicsLean();
        String[] texts = {"turn 1;", "", "leans 1;", "prop 0;"};
        for (int i = 0; i < 4; i++) {
            doc.due("text() of '" + texts[i] + "'", Check.read(x, texts[i]), i);
            doc.due("about(7): empty then", x.about(7), 0);
            doc.due("about(1)", x.about(1), i + 1);
        }
    }

    private void promise6TextRefused() {
        doc.says(6, "NONE: it has a FAULT; or (the tape stays) there are 4.");
        ItalicsLean x = new ItalicsLean();
        doc.due("text() with a FAULT", Check.read(x, "turn 0;"), NONE);
        doc.due("about(1)", x.about(1), 0);
        doc.due("played(0): it is no TEXT", x.played(0), -2);
        doc.due("about(7): the tape was read", x.about(7), 0);
        doc.due("text() without", Check.read(x, "turn 1;"), 0);
        for (int i = 1; i < 4; i++) {
            Check.read(x, "year 1;");
        }
        Check.tape(x, "prop 0;");
        doc.due("text(): there are 4", x.text(), NONE);
        doc.due("about(7): it stays", x.about(7), 7);
        doc.due("about(1)", x.about(1), 4);
        doc.due("fault(0): it wasn't read", x.fault(0), 0);
        Check.tape(x, "turn 0;");
        doc.due("text(): there are 4", x.text(), NONE);
        doc.due("fault(0): it wasn't read", x.fault(0), 0);
        doc.due("fault(1): it wasn't read", x.fault(1), NONE);
        doc.due("played(3): the fourth stays", x.played(3), NONE);
        x.back();
        Check.tape(x, "turn 2;");
        doc.due("text(): there are none any more", x.text(), 0);
        doc.due("about(7)", x.about(7), 0);
        behindAFault();
    }

    /** Nothing of a text with a fault is in the next one. */
    private void behindAFault() {
        ItalicsLean x = Check.people(1, 2);
        doc.due("text() with a FAULT", Check.read(x, "leans 7; hears 70; turn 1; turn 1; turn 3; !"), NONE);
        doc.due("text() behind it", Check.read(x, "turn 1;"), 0);
        doc.due("played(0): its own CLAUSE alone", x.played(0), NONE);
        doc.due("about(3)", x.about(3), 1);
        x.by(0);
        doc.due("of(1, 3): it has no leans", x.of(1, 3), 1);
        doc.due("hears(1, 1, 5): it has no hears", x.hears(1, 1, 5), 5);
        ItalicsLean y = Check.people(1);
        for (int i = 0; i < 3; i++) {
            doc.due("text() with a FAULT at the end", Check.read(y, "leans 1" + "+1".repeat(146) + "!"), NONE);
            doc.due("fault(1)", y.fault(1), 299);
        }
        y.by(Check.read(y, "leans 1" + "-0".repeat(145) + "+6;"));
        doc.due("of(0, 3) behind them", y.of(0, 3), 7);
    }

    private void promise7Fault() {
        doc.says(7, "Of the latest text that was read: 0 its FAULT (0 without), 1 its place (NONE without).");
        ItalicsLean x = new ItalicsLean();
        Check.read(x, "turn 1; turn 0;");
        doc.due("fault(0)", x.fault(0), 2);
        doc.due("fault(1)", x.fault(1), 13);
        Check.tape(x, "!");
        doc.due("fault(0): the tape isn't read yet", x.fault(0), 2);
        x.text();
        doc.due("fault(0)", x.fault(0), 1);
        doc.due("fault(1): at the first byte", x.fault(1), 0);
        Check.read(x, "turn 1;");
        doc.due("fault(0) without", x.fault(0), 0);
        doc.due("fault(1) without", x.fault(1), NONE);
        doc.says(7, "NONE for others, and ahead of any.");
        doc.due("fault(2)", x.fault(2), NONE);
        doc.due("fault(-1)", x.fault(-1), NONE);
        for (int wild : Edges.WILD) {
            doc.due("fault(" + wild + ")", x.fault(wild), NONE);
        }
        ItalicsLean y = new ItalicsLean();
        doc.due("fault(0) ahead of any", y.fault(0), NONE);
        doc.due("fault(1) ahead of any", y.fault(1), NONE);
        doc.due("fault(2) ahead of any", y.fault(2), NONE);
        y.feed(0, 0, 0, 0, 0);
        doc.due("fault(0) ahead of any, with a tape", y.fault(0), NONE);
    }

    private void promise8By() {
        doc.says(8, "THE TEXT (NONE: none): true.");
        ItalicsLean x = Check.people(5);
        doc.due("by(NONE) without TEXTS", x.by(NONE), true);
        for (int i = 0; i < 4; i++) {
            Check.read(x, "leans " + (i + 6) + ";");
            doc.due("by(" + i + ")", x.by(i), true);
            doc.due("about(2)", x.about(2), i);
            doc.due("of(0, 3)", x.of(0, 3), i + 6);
        }
        doc.due("by(NONE)", x.by(NONE), true);
        doc.due("about(2)", x.about(2), NONE);
        doc.due("of(0, 3)", x.of(0, 3), 4);
        doc.says(8, "False for others.");
        doc.due("by(0) without TEXTS", new ItalicsLean().by(0), false);
        x.by(3);
        doc.due("by(4)", x.by(4), false);
        doc.due("by(-2)", x.by(-2), false);
        for (int wild : Edges.WILD) {
            doc.due("by(" + wild + ")", x.by(wild), false);
        }
        doc.due("about(2): as it was", x.about(2), 3);
        ItalicsLean y = new ItalicsLean();
        Check.read(y, "turn 1;");
        doc.due("by(1): not there", y.by(1), false);
        doc.due("about(2): as it was", y.about(2), NONE);
    }

    private void termsIITexts() {
        doc.terms("II", "TEXTS 0 .. 3: of up to 300 bytes.");
        ItalicsLean x = Check.people(4);
        Check.tape(x, blanks(293) + "turn 1;");
        doc.due("about(7)", x.about(7), 300);
        doc.due("text() of 300 bytes", x.text(), 0);
        doc.due("played(0)", x.played(0), NONE);
        doc.due("of(0, 0): its last bytes count", x.of(0, 0), -4);
        fault(blanks(299) + "!", 1, 299);
        fault(blanks(294) + "turn 1", 1, 300);
        fault(blanks(289) + "leans if 1<", 1, 300);
        fault(blanks(289) + "leans if 1>", 1, 300);
        fault(blanks(288) + "leans if 1<=", 1, 300);
        fault(blanks(296) + "turn", 1, 300);
        whole("");
        whole(blanks(300));
        whole("leans 1" + "+1".repeat(146) + ";");
        whole("leans " + "1".repeat(1) + "*1".repeat(146) + ";");
        doc.due("a fourth", Check.read(fourTexts(3), "turn 1;"), 3);
        doc.due("a fifth", Check.read(fourTexts(4), "turn 1;"), NONE);
    }

    private static ItalicsLean fourTexts(int many) {
        ItalicsLean x = new ItalicsLean();
        for (int i = 0; i < many; i++) {
            Check.read(x, "turn 1;");
        }
        return x;
    }

    private void termsIITokens() {
        doc.terms("II", "TOKENS, blanks (32, 10) aside:");
        whole("\n  turn\n\n1\n; \n");
        whole("turn1;turn 1 ;");
        whole("leans if 1<=1then 1else 2end;");
        fault("turn\t1;", 1, 4);
        fault("turn\r1;", 1, 4);
        for (int none : new int[] {0, 9, 11, 12, 13, 31, 33, 127, 128, 160, 255}) {
            fault("turn 1;" + (char) none, 1, 7);
        }
        doc.terms("II", "letters a .. z, A .. Z one behind the other (one TOKEN)");
        for (char letter : "azAZmM".toCharArray()) {
            fault("turn" + letter + " 1;", 1, 0);
            fault("turn " + letter + ";", 1, 5);
        }
        for (char none : "@[`{".toCharArray()) {
            fault("turn" + none + " 1;", 1, 4);
            fault("turn 1;" + none, 1, 7);
        }
        fault("tu rn 1;", 1, 0);
        fault("turn turn 1;", 1, 5);
        fault("Turn 1;", 1, 0);
        fault("TURN 1;", 1, 0);
        doc.terms("II", "digits likewise (NUMBERS, 0 .. 9999)");
        whole("year 10;year 19;");
        whole("leans 0;hears 9999;");
        whole("leans 00009999;");
        fault("leans 10000;", 2, 6);
        fault("hears 10000;", 2, 6);
        fault("leans 99999;", 2, 6);
        fault("leans 2147483648;", 2, 6);
        fault("leans 4294967296;", 2, 6);
        fault("leans 18446744073709551617;", 2, 6);
        fault("leans " + "9".repeat(290) + ";", 2, 6);
        whole("leans " + "0".repeat(290) + "1;");
        fault("turn 1 0;", 1, 7);
        fault("turn 1/;", 1, 6);
        fault("turn 1:;", 1, 6);
    }

    private void termsIISigns() {
        doc.terms("II", "<= >= < > = # + - * / ( ) ; (the longest).");
        for (String sign : new String[] {"<=", ">=", "<", ">", "=", "#"}) {
            whole("leans if 1" + sign + "1 then 1 else 1 end;");
        }
        for (String sign : new String[] {"+", "-", "*", "/"}) {
            whole("leans 1" + sign + "1;");
        }
        whole("leans (1);");
        fault("leans if 1< =1 then 1 else 1 end;", 1, 12);
        fault("leans if 1> =1 then 1 else 1 end;", 1, 12);
        fault("leans if 1=<1 then 1 else 1 end;", 1, 11);
        fault("leans if 1=>1 then 1 else 1 end;", 1, 11);
        fault("leans if 1==1 then 1 else 1 end;", 1, 11);
        fault("leans if 1<<1 then 1 else 1 end;", 1, 11);
        fault("leans if 1<>1 then 1 else 1 end;", 1, 11);
        fault("leans if 1<==1 then 1 else 1 end;", 1, 12);
        fault("leans if 1>==1 then 1 else 1 end;", 1, 12);
        fault("leans if 1##1 then 1 else 1 end;", 1, 11);
        fault("leans if 1<=", 1, 12);
        fault("leans if 1<", 1, 11);
        for (char none : "!\"$%&',.:?\\]^_|}~".toCharArray()) {
            fault("leans 1" + none + "1;", 1, 7);
        }
    }

    private void termsIIClauses() {
        doc.terms("II", "{CLAUSE}, 24 at most:");
        whole("");
        whole("turn 1;".repeat(24));
        fault("turn 1;".repeat(25), 6, 168);
        ItalicsLean all = playedTo(1, "turn 1;".repeat(24), NONE);
        doc.due("about(3): all 24 are done", all.about(3), 24);
        doc.terms("II", "leans SUM ; or hears SUM ; (each once)");
        whole("leans 1;");
        whole("hears 1;");
        whole("hears 1; leans 1;");
        fault("leans 1; leans 1;", 4, 9);
        fault("hears 1; hears 1;", 4, 9);
        fault("leans ;", 1, 6);
        fault("hears 1", 1, 7);
        ItalicsLean x = Check.people(1);
        x.by(Check.read(x, "hears 40; leans 7;"));
        doc.due("of(0, 3)", x.of(0, 3), 7);
        doc.due("hears(0, 0, 0)", x.hears(0, 0, 0), 40);
    }

    private ItalicsLean playedTo(int people, String text, int want) {
        ItalicsLean x = Check.people(new int[people]);
        for (int i = 0; i < people; i++) {
            x.prop(i, i == 1);
        }
        doc.due("played: '" + text + "'", x.played(Check.read(x, text)), want);
        return x;
    }

    private void termsIIDeeds() {
        doc.terms("II", "or person NUMBER weight NUMBER ; (SLANT and 9: 0 .. 18)");
        ItalicsLean x = playedTo(0, "person 0 weight 1; person 18 weight 9; person 9 weight 5;", NONE);
        int[][] wants = {{-9, 1}, {9, 9}, {0, 5}};
        for (int i = 0; i < 3; i++) {
            doc.due("of(" + i + ", 0)", x.of(i, 0), wants[i][0]);
            doc.due("of(" + i + ", 1)", x.of(i, 1), wants[i][1]);
        }
        doc.terms("II", "or rack NUMBER at NUMBER ; (RACK and 9, SEAT)");
        x = playedTo(5, "rack 0 at 0; rack 18 at 4; rack 9 at 1; rack 1 at 2;", NONE);
        int[] racks = {-9, 0, -8, 0, 9};
        for (int i = 0; i < 5; i++) {
            doc.due("seat(" + i + ", 1)", x.seat(i, 1), racks[i]);
        }
        doc.terms("II", "or swap NUMBER with NUMBER ;");
        x = playedTo(5, "swap 0 with 4; swap 3 with 0;", NONE);
        doc.due("seat(0, 0)", x.seat(0, 0), 3);
        doc.due("seat(3, 0)", x.seat(3, 0), 4);
        doc.due("seat(4, 0)", x.seat(4, 0), 0);
        doc.terms("II", "or turn NUMBER ;");
        x = playedTo(5, "turn 1; turn 5;", NONE);
        doc.due("seat(0, 0)", x.seat(0, 0), 4);
        doc.terms("II", "or prop NUMBER ; or free NUMBER ; (SEAT)");
        x = playedTo(5, "prop 0; prop 4; free 1; free 0;", NONE);
        doc.due("is(3)", x.is(3), 16);
        doc.terms("II", "or year NUMBER ;.");
        x = playedTo(1, "year 1; year 60;", NONE);
        doc.due("is(0)", x.is(0), 61);
    }

    private void termsIIFaultsFirstAndWhere() {
        doc.terms("II", "FAULTS, the first as TOKENS are come to,");
        fault("turn 9; foo", 2, 5);
        fault("foo; turn 9;", 1, 0);
        fault("turn 1; ! turn 0;", 1, 8);
        fault("leans 10000 10000;", 2, 6);
        fault("person 19 at 0;", 2, 7);
        fault("person 1 at 0;", 1, 9);
        fault("leans word", 5, 6);
        fault("leans 1; leans", 4, 9);
        fault("leans (((((((((", 3, 14);
        doc.terms("II", "at the TOKEN's first byte (of the end at the length),");
        fault("turn   00099;", 2, 7);
        fault("\n \nfoo", 1, 3);
        fault("leans 1   <= 2;", 1, 10);
        fault("turn", 1, 4);
        fault("turn  ", 1, 6);
        fault("turn 1 \n ", 1, 9);
        fault("leans 1 +", 1, 9);
        fault("turn 1; year 1", 1, 14);
        fault("turn 1" + blanks(294), 1, 300);
        fault(blanks(300 - 5) + "leans", 1, 300);
    }

    private void termsIIOfOneTheLeast() {
        doc.terms("II", "of one the least:");
        // 1 and 2: a NUMBER that is none of those told, where none can stand.
        fault("leans 1 10000;", 1, 8);
        fault("turn 1 6;", 1, 7);
        fault("10000;", 1, 0);
        // 1 and 3: the 9th, where it can't stand.
        fault("leans ((((((((1(", 1, 15);
        fault("leans ((((((((1 if", 1, 16);
        fault("leans (((((((( not", 1, 15);
        // 1 and 4: leans for the second time, where no CLAUSE begins.
        fault("leans 1; turn leans", 1, 14);
        fault("leans leans;", 1, 6);
        // 1 and 5: a NAME of the other law, where none can stand.
        fault("leans 1 word;", 1, 8);
        fault("hears 1 left;", 1, 8);
        fault("word;", 1, 0);
        // 1 and 6: the 25th begins with what can't begin one.
        fault("turn 1;".repeat(24) + "word", 1, 168);
        fault("turn 1;".repeat(24) + ";", 1, 168);
        fault("turn 1;".repeat(24) + "!", 1, 168);
        // 4 and 6: the 25th is leans for the second time.
        fault("leans 1;" + "turn 1;".repeat(23) + "leans 1;", 4, 169);
        fault("hears 1;" + "turn 1;".repeat(23) + "hears 1;", 4, 169);
    }

    private void termsIIFault1() {
        doc.terms("II", "1 it can't stand there, or is none.");
        String[] cut = {"leans", "step", "1", "to", "seat", "(", "1", "+", "1", ")", "-", "if", "not", "1", "<", "1", "and",
            "1", "=", "1", "or", "1", "#", "1", "then", "1", "else", "1", "end", ";", "person", "1", "weight", "1", ";",
            "rack", "1", "at", "1", ";", "swap", "1", "with", "2", ";", "turn", "1", ";"};
        StringBuilder text = new StringBuilder();
        for (int i = 0; i < cut.length; i++) {
            // Whatever comes next, a sign that is none can't stand there, nor can the end but behind a CLAUSE.
            fault(text + "!", 1, text.length());
            boolean between = i == 0 || cut[i - 1].equals(";");
            fault(text.toString(), between ? 0 : 1, between ? NONE : text.length());
            text.append(cut[i]).append(' ');
        }
        whole(text.toString());
        String[] wrong = {"leans to;", "leans then;", "leans end;", "leans );", "leans * 1;", "leans + 1;", "leans foo;",
            "leans not 1;", "leans at;", "leans person;"};
        for (String one : wrong) {
            fault(one, 1, 6);
        }
        fault("leans 1*;", 1, 8);
        fault("leans 1/;", 1, 8);
        fault("leans 1-;", 1, 8);
        fault("leans 1*+1;", 1, 8);
        fault("leans 1*1/;", 1, 10);
        fault("leans (1*);", 1, 9);
        fault("leans if 1<1 and then 1 else 1 end;", 1, 17);
        fault("leans if 1<1 or then 1 else 1 end;", 1, 16);
        fault("leans (1;", 1, 8);
        fault("leans 1);", 1, 7);
        fault("leans ();", 1, 7);
        fault("leans 1 < 1;", 1, 8);
        fault("leans if 1 then 1 else 1 end;", 1, 11);
        fault("leans if (1<1) then 1 else 1 end;", 1, 11);
        fault("leans if 1<1 then 1 end;", 1, 20);
        fault("leans if 1<1 else 1 end;", 1, 13);
        fault("leans step 1 2;", 1, 13);
        fault("turn -1;", 1, 5);
        fault("turn (1);", 1, 5);
        fault("turn 1;;", 1, 7);
        fault("swap 1 at 2;", 1, 7);
        fault("rack 1 with 2;", 1, 7);
        fault("person 1 to 2;", 1, 9);
    }

    /** A CLAUSE of one NUMBER, of which so many can be. */
    private void range(String ahead, int least, int most, String behind) {
        whole(ahead + least + behind);
        whole(ahead + most + behind);
        if (least > 0) {
            fault(ahead + (least - 1) + behind, 2, ahead.length());
        }
        fault(ahead + (most + 1) + behind, 2, ahead.length());
        fault(ahead + 9999 + behind, most < 9999 ? 2 : 0, most < 9999 ? ahead.length() : NONE);
        fault(ahead + 10000 + behind, 2, ahead.length());
        whole(ahead + "000" + most + behind);
    }

    private void termsIIFault2() {
        doc.terms("II", "2 a NUMBER that isn't one of those told (above 9999; of person, rack 0 .. 18, WEIGHT 1 .. 9, "
                + "SEATS 0 .. 4, of turn 1 .. 5, YEARS 1 .. 60).");
        range("leans ", 0, 9999, ";");
        range("hears seat ", 0, 9999, ";");
        range("leans 1*", 0, 9999, ";");
        range("leans 1/", 0, 9999, "+1;");
        range("leans 1+", 0, 9999, ";");
        range("leans step ", 0, 9999, " to 1;");
        range("leans step 1 to ", 0, 9999, ";");
        range("leans if ", 0, 9999, " < 1 then 1 else 1 end;");
        range("leans if 1=1 and not 1 # ", 0, 9999, " then 1 else 1 end;");
        range("leans if 1 = ", 0, 9999, " then 1 else 1 end;");
        range("person ", 0, 18, " weight 1;");
        range("rack ", 0, 18, " at 1;");
        range("person 1 weight ", 1, 9, ";");
        range("rack 1 at ", 0, 4, ";");
        range("swap ", 0, 4, " with 1;");
        range("swap 1 with ", 0, 4, ";");
        range("prop ", 0, 4, ";");
        range("free ", 0, 4, ";");
        range("turn ", 1, 5, ";");
        range("year ", 1, 60, ";");
    }

    private void termsIIFault3() {
        doc.terms("II", "3 the 9th of ( not step seat if and - (of one ONE) that are open around one another "
                + "(at it; step till its second is whole).");
        String[] heads = {"(", "-", "seat ", "step ", "if "};
        String[] tails = {")", "", "", " to 1", " = 1 then 1 else 1 end"};
        for (int i = 0; i < heads.length; i++) {
            String one = heads[i] + "1" + tails[i];
            whole("leans " + "(".repeat(7) + one + ")".repeat(7) + ";");
            fault("leans " + "(".repeat(8) + one + ")".repeat(8) + ";", 3, 14);
            whole("leans " + heads[i].repeat(8) + "1" + tails[i].repeat(8) + ";");
            fault("leans " + heads[i].repeat(9) + "1" + tails[i].repeat(9) + ";", 3, 6 + 8 * heads[i].length());
        }
        whole("leans " + "(".repeat(6) + "if not 1=1 then 1 else 1 end" + ")".repeat(6) + ";");
        fault("leans " + "(".repeat(7) + "if not 1=1 then 1 else 1 end" + ")".repeat(7) + ";", 3, 16);
        whole("leans if " + "not ".repeat(7) + "1=1 then 1 else 1 end;");
        fault("leans if " + "not ".repeat(8) + "1=1 then 1 else 1 end;", 3, 37);
        // All of them around one another.
        whole("leans (-seat step if not (-1) = 1 then 1 else 1 end to 1);");
        fault("leans (-seat step if not (-(1", 3, 27);
        // In whatever place: the first and the second of step, what is asked, what is chosen.
        fault("leans step " + "(".repeat(8), 3, 18);
        fault("leans step 1 to " + "(".repeat(8), 3, 23);
        fault("leans if " + "(".repeat(8), 3, 16);
        fault("leans if 1 = " + "(".repeat(8), 3, 20);
        fault("leans if 1 = 1 and " + "(".repeat(8), 3, 26);
        fault("leans if 1 = 1 or " + "(".repeat(8), 3, 25);
        fault("leans if 1=1 then " + "(".repeat(8), 3, 25);
        fault("leans if 1=1 then 1 else " + "(".repeat(8), 3, 32);
        fault("leans if not " + "(".repeat(7), 3, 19);
        fault("hears - " + "(".repeat(8), 3, 15);
    }

    private void termsIIFault3Closed() {
        doc.terms("II", "that are open around one another (at it; step till its second is whole).");
        String eight = "((((((((1))))))))";
        String seven = "(((((((1)))))))";
        whole("leans " + eight + "+" + eight + ";");
        whole("leans -1+" + eight + ";");
        whole("leans seat 1+" + eight + ";");
        whole("leans step 1 to 1+" + eight + ";");
        whole("leans if 1=1 then 1 else 1 end+" + eight + ";");
        whole("leans step " + seven + " to " + seven + ";");
        whole("leans if " + seven + "=" + seven + " and not 1=1 or " + seven + "=1 then " + seven + " else " + seven
                + " end;");
        whole("leans 1-1-1-1-1-1-1-1-1-1-1;");
        whole("leans " + "(".repeat(8) + "1-1-1" + ")".repeat(8) + ";");
        whole("leans 1--------1;");
        fault("leans 1----------1;", 3, 16);
    }

    private void termsIIFault4() {
        doc.terms("II", "4 leans, hears for the second time (at it).");
        fault("leans 1; hears 1; leans 1;", 4, 18);
        fault("leans 1; hears 1; hears 1;", 4, 18);
        fault("leans 1; turn 1;  leans", 4, 18);
        ItalicsLean x = new ItalicsLean();
        Check.read(x, "leans 1;");
        doc.due("leans in another TEXT", Check.read(x, "leans 1;"), 1);
        Check.read(x, "hears 1; turn 0;");
        doc.due("hears behind a TEXT with a FAULT", Check.read(x, "hears 1;"), 2);
    }

    private void termsIIFault5() {
        doc.terms("II", "5 a NAME that isn't of that CLAUSE (at it).");
        for (String name : new String[] {"year", "wind", "weight", "who", "slant"}) {
            whole("leans " + name + ";");
            whole("hears " + name + ";");
        }
        for (String name : new String[] {"left", "right"}) {
            whole("leans " + name + ";");
            fault("hears " + name + ";", 5, 6);
            fault("leans 1; hears -" + name + ";", 5, 16);
        }
        for (String name : new String[] {"word", "from"}) {
            whole("hears " + name + ";");
            fault("leans " + name + ";", 5, 6);
            fault("hears 1; leans (" + name + ";", 5, 16);
        }
        fault("leans 2*word;", 5, 8);
        fault("leans if 1 = from then 1 else 1 end;", 5, 13);
        fault("hears step 1 to left;", 5, 16);
        fault("leans words;", 1, 6);
        fault("leans Word;", 1, 6);
    }

    private void termsIIFault6() {
        doc.terms("II", "6 the 25th CLAUSE (at its first TOKEN).");
        String[] clauses = {"leans 1;", "hears 1;", "person 1 weight 1;", "rack 1 at 1;", "swap 1 with 1;", "turn 1;",
            "prop 1;", "free 1;", "year 1;"};
        for (String clause : clauses) {
            whole("turn 1;".repeat(23) + clause);
            fault("turn 1;".repeat(24) + "  " + clause, 6, 170);
        }
        fault("turn 1;".repeat(24) + "year", 6, 168);
        fault("leans 1;hears 1;" + "turn 1;".repeat(22) + "turn 0;", 6, 170);
    }

    private void termsIIPlayed() {
        doc.terms("II", "PLAYED by a TEXT: its CLAUSES but laws, in their order, as by hand;");
        ItalicsLean x = new ItalicsLean();
        Check.read(x, "leans 9; person 12 weight 2; person 4 weight 3; turn 1; swap 0 with 1; hears 5; year 2; prop 1;");
        doc.due("played(0)", x.played(0), NONE);
        ItalicsLean y = new ItalicsLean();
        y.person(3, 2);
        y.person(-5, 3);
        y.turn(1);
        y.swap(0, 1);
        y.year(2);
        y.prop(1, true);
        doc.same("all, as by hand", Look.at(x).replaceAll("(about1|whose)=\\d+", ""),
                Look.at(y).replaceAll("(about1|whose)=\\d+", ""));
        doc.due("about(3): its STEPS", x.about(3), 5);
        doc.due("undo(): one by one", x.undo(), 4);
        ItalicsLean z = Check.people(1);
        z.by(Check.read(z, "leans 7;"));
        z.played(Check.read(z, "leans 3; year 1;"));
        doc.due("of(0, 0): THE TEXT rules, not the one that is PLAYED", z.of(0, 0), 7);
        doc.due("about(2)", z.about(2), 0);
    }

    private void termsIIPlayedEnds() {
        doc.terms("II", "one that can't be ends it (of so many YEARS those that can pass do): its number among all CLAUSES "
                + "(from 0); what was done stays.");
        ends(5, "person 1 weight 1;");
        ends(0, "swap 0 with 1;");
        ends(1, "swap 0 with 1;");
        ends(3, "swap 0 with 4;");
        ends(3, "swap 4 with 0;");
        ends(3, "swap 1 with 1;");
        ends(0, "turn 1;");
        ends(3, "turn 4;");
        ends(3, "prop 3;");
        ends(3, "prop 1;");
        ends(3, "free 3;");
        ends(3, "free 0;");
        ItalicsLean x = Check.people(4);
        doc.due("the last of 24", x.played(Check.read(x, "turn 1;".repeat(23) + "turn 2;")), 23);
        doc.due("of(0, 0): TURNED 23 times", x.of(0, 0), -4);
        doc.due("about(3)", x.about(3), 23);
        ItalicsLean y = Check.people(4, 4, 4, 4);
        doc.due("the fifth goes, the sixth doesn't", y.played(Check.read(y, "person 1 weight 1; person 1 weight 1;")), 1);
        doc.due("about(0)", y.about(0), 5);
    }

    /** With so many people, seat 1 being propped, one CLAUSE that can't be behind two that can and two laws. */
    private void ends(int people, String clause) {
        String text = "rack 10 at 0; leans 1; year 1; hears 1; " + clause + " year 1;";
        ItalicsLean x = playedTo(people, text, 4);
        doc.due("is(0): what was done stays, what is behind isn't", x.is(0), 1);
        doc.due("about(0)", x.about(0), people);
        doc.due("about(3)", x.about(3), people > 1 ? 2 : 1);
    }

    private void termsIIPlayedYears() {
        doc.terms("II", "(of so many YEARS those that can pass do)");
        ItalicsLean x = EdgesOfPeople.late(9940);
        x.person(1, 1);
        Check.read(x, "year 60; turn 1;");
        int steps = x.about(3);
        doc.due("played(0): 59 of 60", x.played(0), 0);
        doc.due("is(0)", x.is(0), 9999);
        doc.due("about(3): full as it was", x.about(3), steps);
        doc.due("played(0): none of 60", x.played(0), 0);
        doc.due("is(0)", x.is(0), 9999);
        x.undo();
        Check.read(x, "year 1; year 1;");
        doc.due("played(1): one, then none", x.played(1), 1);
        doc.due("is(0)", x.is(0), 9999);
        ItalicsLean y = EdgesOfPeople.late(9939);
        Check.read(y, "year 60;");
        doc.due("played(0): all of 60", y.played(0), NONE);
        doc.due("is(0)", y.is(0), 9999);
    }

    private void promise13Played() {
        doc.says(13, "PLAYED by a TEXT: NONE: all is done; else the number of the CLAUSE that can't be.");
        ItalicsLean x = Check.people(1);
        doc.due("an empty one", x.played(Check.read(x, "")), NONE);
        doc.due("laws alone", x.played(Check.read(x, "leans 1; hears 1;")), NONE);
        doc.due("the first can't", x.played(Check.read(x, "turn 2;")), 0);
        doc.due("the second can't", x.played(Check.read(x, "turn 1; turn 2; turn 1;")), 1);
        doc.due("of(0, 0)", x.of(0, 0), -1);
        doc.says(13, "-2 for others.");
        doc.due("played(4)", x.played(4), -2);
        doc.due("played(NONE)", x.played(NONE), -2);
        doc.due("played(-2)", x.played(-2), -2);
        for (int wild : Edges.WILD) {
            doc.due("played(" + wild + ")", x.played(wild), -2);
        }
        doc.due("played(0) without TEXTS", new ItalicsLean().played(0), -2);
        ItalicsLean y = Check.people(1);
        Check.read(y, "turn 1;");
        doc.due("played(1): not there", y.played(1), -2);
        doc.due("about(3)", y.about(3), 0);
    }
}
