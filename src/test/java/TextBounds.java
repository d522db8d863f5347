/** Part II of the document up to its laws: TEXTS, TOKENS and CLAUSES, sentence by sentence, at their bounds. */
final class TextBounds {
    private static final String PART = "Part II";

    static void all(Sentences s) {
        texts(s);
        blanks(s);
        letters(s);
        digits(s);
        signs(s);
        longestSigns(s);
        clauses(s);
        laws(s);
        vowClause(s);
        sinClause(s);
        passClause(s);
        forgiveClause(s);
        waitClause(s);
    }

    private static void texts(Sentences s) {
        s.of(PART, "TEXTS 0 .. 3: of up to 300 bytes.");
        VeilOfStones x = new VeilOfStones();
        int[] lengths = {0, 1, 299, 300};
        for (int i = 0; i < 4; i++) {
            s.due("by(" + i + ") with " + i, x.by(i), false);
            Convents.tape(x, "", lengths[i]);
            s.due("text() of " + lengths[i] + " bytes", x.text(), i);
            s.due("by(" + i + ") with one more", x.by(i), true);
        }
        s.due("text() with 4", x.text(), -1);
        s.due("by(4) with 4", x.by(4), false);
        s.due("about(4)", x.about(4), 4);
        // The last CLAUSE ends at the 300th byte: nothing is cut off.
        VeilOfStones y = new VeilOfStones();
        s.due("text() of 300 bytes", Check.read(y, " ".repeat(287) + "wait 2;wait5;"), 0);
        s.due("played(0)", y.played(0), -1);
        s.due("DAY", y.about(3), 7);
        s.bad(" ".repeat(294) + "wait 5", 1, 300);
        s.bad(" ".repeat(293) + "wait 1)", 1, 299);
    }

    private static void blanks(Sentences s) {
        s.of(PART, "TOKENS, blanks (32, 10) aside");
        for (int b = 0; b < 256; b++) {
            String sign = "" + (char) b;
            if (b == 32 || b == 10) {
                s.good(sign + "wait 1;");
                s.good("wait 1;" + sign);
                s.good("wait" + sign + "1;");
                s.bad("wai" + sign + "t 1;", 1, 0);
                s.bad("wait 1" + sign + "1;", 1, 7);
            } else if (!(b >= '0' && b <= '9')) {
                s.bad("wait" + sign + "1;", 1, isLetter(b) ? 0 : 4);
            }
        }
        s.good(" \n  \n\nweighs\n1 \n;\n\n wait  1\n; ");
        s.good("weighs(1+2)*3;goes(1)=1;");
    }

    private static boolean isLetter(int b) {
        return b >= 'a' && b <= 'z' || b >= 'A' && b <= 'Z';
    }

    private static void letters(Sentences s) {
        s.of(PART, "letters a .. z, A .. Z one behind the other (one TOKEN)");
        for (int b = 0; b < 256; b++) {
            String sign = "" + (char) b;
            if (isLetter(b)) {
                s.bad("weighs kind" + sign + ";", 1, 7);
                s.bad("weighs " + sign + "kind;", 1, 7);
            } else if (b != 32 && b != 10 && ";+-*/".indexOf(b) < 0) {
                s.bad("weighs kind" + sign + ";", 1, 11);
            }
        }
        s.bad("Wait 1;", 1, 0);
        s.bad("WAIT 1;", 1, 0);
        s.bad("waitwait 1;", 1, 0);
        s.bad("wai t 1;", 1, 0);
        s.bad("vow 1 o f 0;", 1, 6);
        s.good("vow1of0;");
        s.bad("vow1ofof0;", 1, 4);
        s.bad(" ".repeat(2) + "a".repeat(298), 1, 2);
    }

    private static void digits(Sentences s) {
        s.of(PART, "digits likewise (NUMBERS, 0 .. 9999)");
        s.good("weighs 0;");
        s.good("weighs 9999;");
        s.bad("weighs 10000;", 2, 7);
        s.weighs("9999 - 9900", 0, 0, 0, 99);
        s.weighs("1234 - 1200", 0, 0, 0, 34);
        s.weighs("0 + 10", 0, 0, 0, 10);
        s.bad("weighs 1 1;", 1, 9);
        s.bad("weighs kind1;", 1, 11);
        s.bad("weighs 1kind;", 1, 8);
        s.bad("weighs 1/;", 1, 9);
        s.bad("weighs 1:;", 1, 8);
        s.weighs("0000000042", 0, 0, 0, 42);
        for (int digit = 0; digit < 10; digit++) {
            s.weighs("" + digit, 0, 0, 0, digit);
            s.weighs("8" + digit, 0, 0, 0, 80 + digit);
        }
        // 2147483648, 4294967297 and 10000000000000000000 would wrap around to NUMBERS that can be.
        s.bad("weighs 2147483648;", 2, 7);
        s.bad("weighs 4294967297;", 2, 7);
        s.bad("weighs 18446744073709551617;", 2, 7);
        s.bad("weighs " + "9".repeat(292) + ";", 2, 7);
        s.good("weighs " + "0".repeat(288) + "9999;");
    }

    private static void signs(Sentences s) {
        s.of(PART, "<= >= < > = # + - * / ( ) ;");
        for (String sign : new String[] {"<=", ">=", "<", ">", "=", "#"}) {
            s.good("goes 1" + sign + "1;");
        }
        for (String sign : new String[] {"+", "-", "*", "/"}) {
            s.good("weighs 1" + sign + "1;");
        }
        s.good("weighs (1);");
        for (int b = 0; b < 256; b++) {
            if (!isLetter(b) && "<>=#+-*/();0123456789 \n".indexOf(b) < 0) {
                s.bad("goes 1" + (char) b + "1;", 1, 6);
                s.bad("" + (char) b, 1, 0);
            }
        }
    }

    private static void longestSigns(Sentences s) {
        s.of(PART, "(the longest)");
        s.goes("kind<=2", 0, true);
        s.goes("kind>=2", 0, true);
        s.bad("goes 1< =1;", 1, 7 + 1);
        s.bad("goes 1> =1;", 1, 7 + 1);
        s.bad("goes 1<==1;", 1, 8);
        s.bad("goes 1>==1;", 1, 8);
        s.bad("goes 1=<1;", 1, 7);
        s.bad("goes 1=>1;", 1, 7);
        s.bad("goes 1==1;", 1, 7);
        s.bad("goes 1<>1;", 1, 7);
        s.bad("goes 1<<1;", 1, 7);
        s.bad("goes 1##1;", 1, 7);
        s.good("goes 1<-1;");
        s.good("goes 1=-1;");
        s.bad("goes 1<", 1, 7);
        s.bad("goes 1<=", 1, 8);
        // What was on the tape behind its end is no part of a sign.
        VeilOfStones x = new VeilOfStones();
        Check.tape(x, "goes 1<=1;");
        x.end(7);
        s.due("text() of \"goes 1<\", cut", x.text(), -1);
        s.due("fault(1)", x.fault(1), 7);
    }

    private static void clauses(Sentences s) {
        s.of(PART, "{CLAUSE}, 24 at most");
        s.good("");
        s.good("wait 1;");
        s.good("wait 1;".repeat(23));
        s.good("wait 1;".repeat(24));
        s.bad("wait 1;".repeat(25), 6, 168);
        s.good("weighs 1;goes 1=1;" + "wait 1;".repeat(22));
        s.bad("weighs 1;goes 1=1;" + "wait 1;".repeat(23), 6, 172);
        VeilOfStones x = new VeilOfStones();
        Check.read(x, "wait 1;".repeat(24));
        s.due("played(0) of 24", x.played(0), -1);
        s.due("DAY", x.about(3), 24);
    }

    private static void laws(Sentences s) {
        s.of(PART, "weighs SUM ; or goes EITHER ; (each once)");
        s.good("weighs 1;");
        s.good("goes 1=1;");
        s.good("weighs 1;goes 1=1;");
        s.good("goes 1=1;weighs 1;");
        s.bad("weighs 1;weighs 1;", 4, 9);
        s.bad("goes 1=1;goes 1=1;", 4, 9);
        s.bad("weighs 1;goes 1=1;weighs 1;", 4, 18);
        s.bad("weighs 1;goes 1=1;goes 1=1;", 4, 18);
        s.bad("weighs;", 1, 6);
        s.bad("weighs", 1, 6);
        s.bad("weighs 1", 1, 8);
        s.bad("goes;", 1, 4);
        s.bad("goes", 1, 4);
        s.bad("goes 1=1", 1, 8);
        s.bad("goes 1;", 1, 6);
        s.bad("weighs 1=1;", 1, 8);
        // A second law with a FAULT of its own, and a law with a FAULT ahead of a second one.
        s.bad("weighs 1;weighs !", 4, 9);
        s.bad("weighs !;weighs 1;", 1, 7);
        // Whichever comes first, and whatever stands between them.
        for (String text : new String[] {"weighs -7 + 30; goes not kind = 3;", "goes not kind = 3; weighs -7 + 30;",
            "goes not kind = 3; wait 1; vow 1 of 1; weighs -7 + 30;"}) {
            VeilOfStones y = Check.convent(1);
            y.vow(3, 0);
            y.vow(2, 0);
            Check.read(y, text);
            y.by(0);
            s.due("veil(0, 0) by " + text, y.veil(0, 0), 46);
            s.due("sin(3, 0) by " + text, y.sin(3, 0), 1);
            s.due("sin(3, 0) by " + text, y.sin(3, 0), -1);
        }
        // Laws of one text are not those of the next.
        VeilOfStones x = new VeilOfStones();
        s.due("text()", Check.read(x, "weighs 1;goes 1=1;"), 0);
        s.due("text() with the same laws", Check.read(x, "weighs 1;goes 1=1;"), 1);
        s.due("text() with a FAULT behind laws", Check.read(x, "weighs 1;goes 1=1;!"), -1);
        s.due("text() behind that", Check.read(x, "weighs 1;goes 1=1;"), 2);
    }

    /** A CLAUSE cut or spoilt at each of its TOKENS, and each of its NUMBERS at its bounds. */
    private static void clause(Sentences s, int least, int[] most, String... tokens) {
        String whole = String.join(" ", tokens);
        s.good(whole);
        s.good(String.join("", tokens));
        int number = 0;
        int place = 0;
        for (int i = 0; i < tokens.length; i++) {
            if (i > 0) {
                // The text ends ahead of it, or a TOKEN that is none stands there.
                s.bad(whole.substring(0, place), 1, place);
                s.bad(whole.substring(0, place) + "! " + whole.substring(place), 1, place);
            }
            if (Character.isDigit(tokens[i].charAt(0))) {
                String ahead = whole.substring(0, place);
                String behind = whole.substring(place + tokens[i].length());
                s.good(ahead + least + behind);
                s.good(ahead + most[number] + behind);
                s.bad(ahead + (most[number] + 1) + behind, 2, place);
                s.bad(ahead + "10000" + behind, 2, place);
                s.bad(ahead + "-" + least + behind, 1, place);
                s.bad(ahead + "kind" + behind, 1, place);
                s.bad(ahead + "(1)" + behind, 1, place);
                if (least > 0) {
                    s.bad(ahead + (least - 1) + behind, 2, place);
                }
                number++;
            }
            place += tokens[i].length() + 1;
        }
        s.bad(whole + " ;", 1, whole.length() + 1);
    }

    private static void vowClause(Sentences s) {
        s.of(PART, "or vow NUMBER of NUMBER ; (KIND, SISTER)");
        clause(s, 0, new int[] {5, 5}, "vow", "3", "of", "2", ";");
        s.bad("vow 1 to 2;", 1, 6);
        s.bad("vow 1 of 2 to 3;", 1, 11);
        VeilOfStones x = Check.convent(6);
        Check.read(x, "vow 0 of 5; vow 5 of 0;");
        s.due("played(0)", x.played(0), -1);
        s.due("KIND of the first", x.stone(0, 0), 0);
        s.due("SISTER of the first", x.stone(0, 2), 5);
        s.due("KIND of the second", x.stone(1, 0), 5);
        s.due("SISTER of the second", x.stone(1, 2), 0);
    }

    private static void sinClause(Sentences s) {
        s.of(PART, "or sin NUMBER of NUMBER ;");
        clause(s, 0, new int[] {5, 5}, "sin", "3", "of", "2", ";");
        s.bad("sin sin of 0;", 1, 4);
        VeilOfStones x = Check.convent(6);
        x.vow(0, 5);
        x.vow(5, 0);
        Check.read(x, "sin 5 of 0;");
        s.due("played(0)", x.played(0), -1);
        s.due("veil(0, 1)", x.veil(0, 1), 0);
        s.due("veil(5, 1)", x.veil(5, 1), 1);
    }

    private static void passClause(Sentences s) {
        s.of(PART, "or pass NUMBER of NUMBER to NUMBER ; (KIND, SISTER, SISTER)");
        clause(s, 0, new int[] {5, 5, 5}, "pass", "3", "of", "2", "to", "1", ";");
        s.bad("pass 1 to 2 of 3;", 1, 7);
        s.bad("pass 1 of 2;", 1, 11);
        s.good("pass 1 of 2 to 2;");
        VeilOfStones x = Check.convent(6);
        x.vow(5, 0);
        x.vow(0, 5);
        Check.read(x, "pass 0 of 5 to 0; pass 5 of 0 to 4;");
        s.due("played(0)", x.played(0), -1);
        s.due("whose STONE 0 is", x.stone(0, 3), 4);
        s.due("whose STONE 1 is", x.stone(1, 3), 0);
    }

    private static void forgiveClause(Sentences s) {
        s.of(PART, "or forgive NUMBER ; (a STONE)");
        clause(s, 0, new int[] {29}, "forgive", "11", ";");
        s.bad("forgive 1 of 1;", 1, 10);
        VeilOfStones x = Check.convent(1);
        x.vow(0, 0);
        x.vow(1, 0);
        x.sin(0, 0);
        x.sin(1, 0);
        Check.read(x, "forgive 1;");
        s.due("played(0)", x.played(0), -1);
        s.due("veil(0, 1)", x.veil(0, 1), 2);
        s.due("played(0) again", x.played(0), 0);
    }

    private static void waitClause(Sentences s) {
        s.of(PART, "or wait NUMBER ; (DAYS).");
        clause(s, 1, new int[] {99}, "wait", "11", ";");
        VeilOfStones x = new VeilOfStones();
        Check.read(x, "wait 99; wait 1;");
        s.due("played(0)", x.played(0), -1);
        s.due("DAY", x.about(3), 100);
    }
}
