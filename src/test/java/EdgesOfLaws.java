/** Terms II about laws, and promise 18: what sums come to, how one leans and what is heard. */
final class EdgesOfLaws {
    private static final int NONE = ItalicsLean.NONE;
    private final Edges doc;

    EdgesOfLaws(Edges doc) {
        this.doc = doc;
    }

    void all() {
        termsIISumAndProduct();
        termsIIOne();
        termsIIStep();
        termsIISeat();
        termsIIIf();
        termsIIAsk();
        termsIINamesOfBoth();
        termsIINamesOfOne();
        termsIIFromTheLeft();
        termsIIDivision();
        termsIIMillion();
        termsIIBothSides();
        termsIIEightAroundOneAnother();
        termsIITheTextRules();
        termsIILeans();
        termsIIHears();
        promise18Hears();
    }

    /** Three people: seat 0 has person 1 (slant -5), seat 1 person 0 (slant 3), seat 2 person 2 (slant 7). */
    private static ItalicsLean three(String text) {
        ItalicsLean x = new ItalicsLean();
        x.person(3, 4);
        x.person(-5, 6);
        x.person(7, 9);
        x.swap(0, 1);
        if (Check.read(x, text) != 0) {
            throw new IllegalStateException(text + ": fault " + x.fault(0) + " at " + x.fault(1));
        }
        x.by(0);
        return x;
    }

    private void sum(String sum, int want) {
        doc.due("leans " + sum, three("leans " + sum + ";").of(0, 3), want);
        doc.due("hears " + sum, three("hears " + sum + ";").hears(0, 0, 0), want);
    }

    private void either(String either, boolean want) {
        sum("if " + either + " then 1 else 2 end", want ? 1 : 2);
    }

    private void termsIISumAndProduct() {
        doc.terms("II", "SUM: PRODUCT {+ or - PRODUCT}.");
        sum("7", 7);
        sum("2+3", 5);
        sum("2-3", -1);
        sum("2+3*2", 8);
        sum("9-3*2+1", 4);
        sum("9-8/4", 7);
        doc.terms("II", "PRODUCT: ONE {* or / ONE}.");
        sum("2*3", 6);
        sum("6/3", 2);
        sum("2*3*1/2", 3);
        sum("-2*3", -6);
        sum("2*-3", -6);
    }

    private void termsIIOne() {
        doc.terms("II", "ONE: NUMBER, NAME, ( SUM ), - ONE,");
        sum("0", 0);
        sum("9999-9998", 1);
        sum("slant", 3);
        sum("(2+3)", 5);
        sum("(2-3)*2", -2);
        sum("2-(3-4)", 3);
        sum("-4", -4);
        sum("--4", 4);
        sum("-0", 0);
        sum("2--3", 5);
        sum("-(2+3)", -5);
        sum("-2+3", 1);
        sum("-slant", -3);
    }

    private void termsIIStep() {
        doc.terms("II", "step ONE to ONE (the first, 1 nearer to the second; it, if they are alike)");
        sum("step 3 to 9", 4);
        sum("step 3 to 4", 4);
        sum("step 3 to 3", 3);
        sum("step 3 to 2", 2);
        sum("step 3 to -9", 2);
        sum("step 0 to 1", 1);
        sum("step 0 to -1", -1);
        sum("step 0 to 0", 0);
        sum("step -3 to -3", -3);
        sum("step -3 to 3", -2);
        sum("step 2 to 9+1", 4);
        sum("step 2 to 9*2", 6);
        sum("step step 2 to 9 to 9", 4);
        sum("step 2 to step 3 to 9", 3);
        sum("-step 3 to 9", -4);
        sum("step (9999*9999) to 0 - 9999*100 - 99", 0);
    }

    private void termsIISeat() {
        doc.terms("II", "seat ONE (SLANT of who sits in the SEAT of that number; 0 for others)");
        sum("seat 0", -5);
        sum("seat 1", 3);
        sum("seat 2", 7);
        sum("seat 3", 0);
        sum("seat 4", 0);
        sum("seat 5", 0);
        sum("seat 9999", 0);
        sum("seat -1", 0);
        sum("seat -9999", 0);
        sum("seat (9999*9999)", 0);
        sum("seat -(9999*9999)", 0);
        sum("seat 1+1", 4);
        sum("seat (1+1)", 7);
        sum("seat seat 1", 0);
        ItalicsLean x = Check.people(1, 2, 3, 4, 5);
        x.by(Check.read(x, "leans seat 4; hears seat 5;"));
        doc.due("seat 4 of five", x.of(0, 3), 5);
        doc.due("seat 5 of five", x.hears(0, 0, 0), 0);
    }

    private void termsIIIf() {
        doc.terms("II", "if EITHER then SUM else SUM end.");
        sum("if 1=1 then 4 else 5 end", 4);
        sum("if 1=2 then 4 else 5 end", 5);
        sum("if 1=1 then 4+1 else 7 end+2", 7);
        sum("2*if 1=2 then 7 else 1+1 end", 4);
        sum("if 1=1 then if 1=2 then 1 else 2 end else 3 end", 2);
        sum("if 1=2 then 1 else if 1=1 then 2 else 3 end end", 2);
        sum("if if 1=1 then 2 else 3 end = 2 then 4 else 5 end", 4);
        doc.terms("II", "of if just the SUM that is chosen is asked.");
        sum("if slant=3 then 1 else 9999*9999 end", 1);
        sum("if slant=4 then 9999*9999 else 1 end", 1);
        sum("if 1=1 then 2 else 3 end * if 1=2 then 2 else 3 end", 6);
    }

    private void termsIIAsk() {
        doc.terms("II", "EITHER: BOTH {or BOTH}.");
        either("1=2 or 1=2 or 1=1", true);
        either("1=2 or 1=2 or 1=2", false);
        either("1=1 or 1=1 and 1=2", true);
        either("1=2 and 1=1 or 1=1", true);
        doc.terms("II", "BOTH: ASK {and ASK}.");
        either("1=1 and 1=1 and 1=1", true);
        either("1=1 and 1=1 and 1=2", false);
        either("1=2 and 1=1 and 1=1", false);
        doc.terms("II", "ASK: not ASK, or SUM one of < <= > >= = # (unlike) SUM.");
        int[][] pairs = {{1, 2}, {2, 2}, {3, 2}};
        for (int[] pair : pairs) {
            int a = pair[0];
            int b = pair[1];
            either(a + "<" + b, a < b);
            either(a + "<=" + b, a <= b);
            either(a + ">" + b, a > b);
            either(a + ">=" + b, a >= b);
            either(a + "=" + b, a == b);
            either(a + "#" + b, a != b);
            either("not " + a + "<" + b, a >= b);
            either("not not " + a + "<" + b, a < b);
        }
        String[] so = {"1<2", "2<=2", "2>1", "2>=2", "2=2", "1#2"};
        String[] notSo = {"2<2", "3<=2", "2>2", "1>=2", "1=2", "2#2"};
        for (int i = 0; i < 6; i++) {
            either("not " + so[i], false);
            either("not " + notSo[i], true);
            either("not not " + so[i], true);
            for (int k = 0; k < 6; k++) {
                either(so[i] + " and " + so[k], true);
                either(so[i] + " and " + notSo[k], false);
                either(notSo[i] + " or " + so[k], true);
                either(notSo[i] + " or " + notSo[k], false);
            }
        }
        either("-1<0", true);
        either("1+1=2*1", true);
        either("not 1=2 and 1=2", false);
        either("not 1=1 or 1=1", true);
        doc.terms("II", "or and and look at both sides always,");
        for (int i = 0; i < 4; i++) {
            int left = i / 2;
            int right = i % 2;
            either(left + "=1 and " + right + "=1", left + right == 2);
            either(left + "=1 or " + right + "=1", left + right > 0);
        }
    }

    private void termsIINamesOfBoth() {
        doc.terms("II", "NAMES: year, wind, weight, who, slant (of the PERSON that leans, or hears) in both;");
        ItalicsLean x = three("leans who * 3 - weight; hears who * 100 + weight * 10 + slant;");
        doc.due("of(0, 3)", x.of(0, 3), -4);
        doc.due("of(1, 3)", x.of(1, 3), -3);
        doc.due("of(2, 3)", x.of(2, 3), -3);
        doc.due("hears(0, 1, 50): of who hears", x.hears(0, 1, 50), 43);
        doc.due("hears(1, 0, 50): of who hears", x.hears(1, 0, 50), 155);
        doc.due("hears(2, 0, 50): of who hears", x.hears(2, 0, 50), 297);
        sum("year", 0);
        sum("wind", 0);
        ItalicsLean y = EdgesOfPeople.late(9999);
        y.person(1, 1);
        y.by(Check.read(y, "leans year - 9995; hears wind * 100 + year / 9999;"));
        doc.due("of(0, 3): the last year", y.of(0, 3), 4);
        doc.due("hears(0, 0, 0)", y.hears(0, 0, 0), y.is(2) * 100 + 1);
    }

    private void termsIINamesOfOne() {
        doc.terms("II", "left, right (SLANT of who sits beside; 0 for nobody) in leans;");
        ItalicsLean x = three("leans left;");
        doc.due("of(1, 3): nobody to the left", x.of(1, 3), 0);
        doc.due("of(0, 3)", x.of(0, 3), -5);
        doc.due("of(2, 3)", x.of(2, 3), 3);
        x.by(Check.read(x, "leans right;"));
        doc.due("of(1, 3)", x.of(1, 3), 3);
        doc.due("of(0, 3)", x.of(0, 3), 7);
        doc.due("of(2, 3): nobody to the right", x.of(2, 3), 0);
        ItalicsLean five = Check.people(1, 2, 3, 4, 5);
        five.by(Check.read(five, "leans right - left;"));
        doc.due("of(4, 3): nobody to the right of five", five.of(4, 3), -4);
        doc.due("of(0, 3): nobody to the left", five.of(0, 3), 2);
        doc.terms("II", "word, from (SLANT of the speaker) in hears.");
        ItalicsLean y = three("hears word * 10 + from;");
        doc.due("hears(0, 1, 0)", y.hears(0, 1, 0), -5);
        doc.due("hears(0, 2, 99)", y.hears(0, 2, 99), 997);
        doc.due("hears(0, 0, 1): of itself", y.hears(0, 0, 1), 13);
    }

    private void termsIIFromTheLeft() {
        doc.terms("II", "From the left;");
        sum("9-4-3", 2);
        sum("9-4+3", 8);
        sum("8/2/2", 2);
        sum("7/2*2", 6);
        sum("2*3/4", 1);
        sum("1-1-1-1", -2);
    }

    private void termsIIDivision() {
        doc.terms("II", "/ cuts towards 0, by 0 it is 0;");
        sum("7/2", 3);
        sum("-7/2", -3);
        sum("7/-2", -3);
        sum("-7/-2", 3);
        sum("1/2", 0);
        sum("-1/2", 0);
        sum("8/2", 4);
        sum("0/7", 0);
        sum("7/0", 0);
        sum("-7/0", 0);
        sum("0/0", 0);
        sum("7/0+1", 1);
        sum("7/(1-1)*2+1", 1);
        sum("9999*9999/0", 0);
    }

    private void termsIIMillion() {
        doc.terms("II", "what is above 1000000 (below the same less) is that, at each step.");
        // 9999 * 100 + 99 is 999999: what is left of a million is 1.
        sum("1000*1000-9999*100-99", 1);
        sum("999*1001-9999*100-99", 0);
        sum("1000*1001-9999*100-99", 1);
        sum("9999*9999-9999*100-99", 1);
        sum("1000*1000+1-9999*100-99", 1);
        sum("1000*1000+1-1-9999*100-99", 0);
        sum("1000*1000+1000*1000-9999*100-99", 1);
        sum("9999*9999*9999*9999-9999*100-99", 1);
        sum("9999*9999*(9999*9999)-9999*100-99", 1);
        sum("-(1000*1000)+9999*100+99", -1);
        sum("-(999*1001)+9999*100+99", 0);
        sum("-(1000*1000)-1+9999*100+99", -1);
        sum("-(1000*1000)-1+1+9999*100+99", 0);
        sum("-1000*1001+9999*100+99", -1);
        sum("-9999*9999+9999*100+99", -1);
        sum("9999*-9999*9999+9999*100+99", -1);
        sum("-9999*9999*-9999-9999*100-99", 1);
        sum("-(1000*1000)-1000*1000+9999*100+99", -1);
        sum("1000*1000*2/1000/500", 2);
    }

    private void termsIIBothSides() {
        doc.terms("II", "or and and look at both sides always,");
        either("7/0=0 or 1=2", true);
        either("1=2 and 7/0=0", false);
    }

    private void termsIIEightAroundOneAnother() {
        doc.terms("II", "3 the 9th of ( not step seat if and - (of one ONE) that are open around one another");
        sum("(".repeat(8) + "5" + ")".repeat(8), 5);
        sum("-".repeat(8) + "5", 5);
        sum("-".repeat(7) + "5", -5);
        sum("step ".repeat(8) + "1" + " to 9".repeat(8), 9);
        sum("step 1 to ".repeat(8) + "9", 2);
        sum("seat ".repeat(8) + "2", 0);
        sum("if " + "not ".repeat(7) + "1=1 then 4 else 5 end", 5);
        sum("if " + "not ".repeat(6) + "1=1 then 4 else 5 end", 4);
        // As much as can be waiting at each of them: what or, and, a comparison, a sum and a product have to the left.
        String heads = "if 0=1or 1=1and 1=0+1*".repeat(7);
        String tails = " then 1else 2end".repeat(7);
        sum(heads + "(0+1*1)" + tails, 1);
        sum(heads + "(1+1*1)" + tails, 2);
    }

    private void termsIITheTextRules() {
        doc.terms("II", "THE TEXT (told; at first none) rules.");
        ItalicsLean x = Check.people(5);
        doc.due("about(2) at first", x.about(2), NONE);
        Check.read(x, "leans 8; hears 70;");
        doc.due("of(0, 3): it isn't told", x.of(0, 3), 4);
        doc.due("hears(0, 0, 1): it isn't told", x.hears(0, 0, 1), 1);
        x.by(0);
        doc.due("of(0, 3)", x.of(0, 3), 8);
        doc.due("hears(0, 0, 1)", x.hears(0, 0, 1), 70);
        Check.read(x, "leans 2;");
        doc.due("of(0, 3): the one that is told", x.of(0, 3), 8);
        x.year(1);
        doc.due("of(0, 0) behind a YEAR", x.of(0, 0), 8);
        doc.due("foretold(1, 0)", x.foretold(1, 0), 8);
        doc.due("upright(0, 0)", x.upright(0, 0), NONE);
        doc.due("still(0, false)", x.still(0, false), 0);
        x.by(NONE);
        doc.due("of(0, 3): none rules", x.of(0, 3), 7);
    }

    private void termsIILeans() {
        doc.terms("II", "leans: -9 at least, 9 at most; without: SLANT, 1 more if WIND is above it, 1 less if below.");
        int[] given = {-10, -9, -8, 8, 9, 10};
        int[] wants = {-9, -9, -8, 8, 9, 9};
        for (int i = 0; i < given.length; i++) {
            doc.due("leans " + given[i], three("leans " + given[i] + ";").of(0, 3), wants[i]);
        }
        doc.due("leans 9999*9999", three("leans 9999*9999;").of(0, 3), 9);
        doc.due("leans -9999*9999", three("leans -9999*9999;").of(0, 3), -9);
        ItalicsLean x = three("leans 500; hears 1;");
        x.year(1);
        doc.due("of(0, 0) behind a YEAR", x.of(0, 0), 9);
        ItalicsLean y = new ItalicsLean();
        y.year(1);
        // The WIND is 4.
        int[] slants = {-9, 3, 4, 5, 9};
        int[] leant = {-8, 4, 4, 4, 8};
        for (int i = 0; i < 5; i++) {
            y.person(slants[i], 1);
            doc.due("of(" + i + ", 3) by a WIND of 4", y.of(i, 3), leant[i]);
        }
        y.by(Check.read(y, "hears 1;"));
        doc.due("of(0, 3): THE TEXT has no leans", y.of(0, 3), -8);
        for (int wind : new int[] {-9, 9}) {
            ItalicsLean z = new ItalicsLean();
            for (int i = 0; i < 100 && z.is(2) != wind; i++) {
                z.year(1);
            }
            z.person(wind, 1);
            z.person(-wind, 1);
            doc.due("of(0, 3) at the WIND " + wind, z.of(0, 3), wind);
            doc.due("of(1, 3) by the WIND " + wind, z.of(1, 3), wind > 0 ? -8 : 8);
        }
    }

    private void termsIIHears() {
        doc.terms("II", "hears: -999 at least, 999 at most; without: the word and from, less SLANT.");
        int[] given = {-1000, -999, -998, 998, 999, 1000};
        int[] wants = {-999, -999, -998, 998, 999, 999};
        for (int i = 0; i < given.length; i++) {
            doc.due("hears " + given[i], three("hears " + given[i] + ";").hears(0, 0, 0), wants[i]);
        }
        doc.due("hears 9999*9999", three("hears 9999*9999;").hears(0, 0, 0), 999);
        doc.due("hears -9999*9999", three("hears -9999*9999;").hears(0, 0, 0), -999);
        ItalicsLean x = Check.people(-9, 9);
        doc.due("hears(0, 1, 99): the most", x.hears(0, 1, 99), 117);
        doc.due("hears(1, 0, 0): the least", x.hears(1, 0, 0), -18);
        x.by(Check.read(x, "leans 1;"));
        doc.due("hears(1, 0, 50): THE TEXT has no hears", x.hears(1, 0, 50), 32);
    }

    private void promise18Hears() {
        doc.says(18, "What a PERSON hears now.");
        ItalicsLean x = Check.people(3, -5);
        doc.due("hears(0, 1, 0)", x.hears(0, 1, 0), -8);
        doc.due("hears(1, 0, 99)", x.hears(1, 0, 99), 107);
        doc.due("hears(1, 1, 7): itself", x.hears(1, 1, 7), 7);
        x.turn(1);
        doc.due("hears(0, 1, 0): now", x.hears(0, 1, 0), -2);
        doc.says(18, "-10000 for others (words 0 .. 99).");
        doc.due("hears(0, 1, -1)", x.hears(0, 1, -1), -10000);
        doc.due("hears(0, 1, 100)", x.hears(0, 1, 100), -10000);
        doc.due("hears(2, 1, 5): not there", x.hears(2, 1, 5), -10000);
        doc.due("hears(0, 2, 5): not there", x.hears(0, 2, 5), -10000);
        doc.due("hears(-1, 1, 5)", x.hears(-1, 1, 5), -10000);
        doc.due("hears(0, -1, 5)", x.hears(0, -1, 5), -10000);
        for (int wild : Edges.WILD) {
            doc.due("hears(" + wild + ", 0, 0)", x.hears(wild, 0, 0), -10000);
            doc.due("hears(0, " + wild + ", 0)", x.hears(0, wild, 0), -10000);
            doc.due("hears(0, 0, " + wild + ")", x.hears(0, 0, wild), -10000);
        }
        doc.due("hears(0, 0, 0) of nobody", new ItalicsLean().hears(0, 0, 0), -10000);
    }
}
