/** Part II of the document: FAULTS, THE TEXT and PLAYED, sentence by sentence, at their bounds. */
final class FaultBounds {
    private static final String PART = "Part II";
    private static final String DEEP_8 = "((((((((";

    static void all(Sentences s) {
        theFirst(s);
        places(s);
        theLeast(s);
        misplaced(s);
        numbers(s);
        depth(s);
        depthOfWhatHasEnded(s);
        secondLaws(s);
        sinInWeighs(s);
        tooManyClauses(s);
        theText(s);
        played(s);
        playedAsByHand(s);
        playedToAnEnd(s);
        playedStays(s);
    }

    private static void theFirst(Sentences s) {
        s.of(PART, "FAULTS, the first as TOKENS are come to");
        s.bad("wait 100; !", 2, 5);
        s.bad("wait !; wait 100;", 1, 5);
        s.bad("weighs sin + 10000;", 5, 7);
        s.bad("weighs 10000 + sin;", 2, 7);
        s.bad("weighs " + DEEP_8 + "( sin", 3, 15);
        s.bad("weighs sin + " + DEEP_8 + "(", 5, 7);
        s.bad("weighs 1; weighs sin; !", 4, 10);
        s.bad("weighs sin; weighs 1;", 5, 7);
        s.bad("wait 1;".repeat(24) + "wait 0;", 6, 168);
        s.bad("wait 0;" + "wait 1;".repeat(24), 2, 5);
        s.bad("wait 1 wait 0;", 1, 7);
    }

    private static void places(Sentences s) {
        s.of(PART, "at the TOKEN's first byte (of the end at the length)");
        s.bad("!", 1, 0);
        s.bad(" \n !", 1, 3);
        s.bad("wait   forgive;", 1, 7);
        s.bad("wait \n\n 9999;", 2, 8);
        s.bad("goes 1  <=  <= 1;", 1, 12);
        s.bad("wait", 1, 4);
        s.bad("wait ", 1, 5);
        s.bad("wait \n\n", 1, 7);
        s.bad("wait 1", 1, 6);
        s.bad("weighs 1 +", 1, 10);
        s.bad("goes not", 1, 8);
        s.bad("wait" + " ".repeat(296), 1, 300);
        s.bad(" ".repeat(299) + "!", 1, 299);
        s.bad(" ".repeat(300 - 4) + "wait", 1, 300);
        // The length is that of the tape when it is read.
        VeilOfStones x = new VeilOfStones();
        Check.tape(x, "wait 100;");
        x.end(4);
        x.text();
        s.due("fault(1) of a tape that was cut", x.fault(1), 4);
    }

    private static void theLeast(Sentences s) {
        s.of(PART, "of one the least");
        // It can't stand there, and ..
        s.bad("weighs 1 10000;", 1, 9);
        s.bad("10000", 1, 0);
        s.bad("vow 1 10000 0;", 1, 6);
        s.bad("weighs " + DEEP_8 + "not", 1, 15);
        s.bad("goes " + DEEP_8 + "not 1=1;", 1, 13);
        s.bad("weighs 1; wait weighs", 1, 15);
        s.bad("weighs 1; goes 1=1; wait goes", 1, 25);
        s.bad("weighs weighs 1;", 1, 7);
        s.bad("weighs 1 sin;", 1, 9);
        s.bad("weighs (1 sin);", 1, 10);
        s.bad("wait 1;".repeat(24) + "of", 1, 168);
        s.bad("wait 1;".repeat(24) + "!", 1, 168);
        s.bad("wait 1;".repeat(24) + "10000", 1, 168);
        // It is there for the second time, and the 25th.
        s.bad("weighs 1;" + "wait 1;".repeat(23) + "weighs 1;", 4, 170);
        s.bad("goes 1=1;" + "wait 1;".repeat(23) + "goes 1=1;", 4, 170);
        s.bad("weighs 1;" + "wait 1;".repeat(23) + "goes 1=1;", 6, 170);
    }

    private static void misplaced(Sentences s) {
        s.of(PART, "1 it can't stand there, or is none.");
        for (String token : new String[] {"of", "to", "or", "and", "not", "kind", "age", "sister", "stone",
            "7", "<", "<=", ">", ">=", "=", "#", "+", "-", "*", "/", "(", ")", ";", "x", "?", "\t", "\0"}) {
            s.bad(token, 1, 0);
            s.bad("wait 1; " + token, 1, 8);
        }
        s.bad("vow vow", 1, 4);
        s.bad("vow 1 vow", 1, 6);
        s.bad("vow 1 of of", 1, 9);
        s.bad("vow 1 of 1 of", 1, 11);
        s.bad("pass 1 of 1 ; to 1;", 1, 12);
        s.bad("weighs ?;", 1, 7);
        s.bad("weighs 1 ?;", 1, 9);
        s.good("vow 1 of 1;");
    }

    private static void numbers(Sentences s) {
        s.of(PART, "2 a NUMBER that isn't one of those told"
            + " (above 9999; KINDS, SINS, SISTERS 0 .. 5, STONES 0 .. 29, DAYS 1 .. 99).");
        number(s, "weighs ", ";", 0, 9999);
        number(s, "goes 1 = ", ";", 0, 9999);
        number(s, "goes ", " = 1;", 0, 9999);
        number(s, "vow ", " of 0;", 0, 5);
        number(s, "vow 0 of ", ";", 0, 5);
        number(s, "sin ", " of 0;", 0, 5);
        number(s, "sin 0 of ", ";", 0, 5);
        number(s, "pass ", " of 0 to 0;", 0, 5);
        number(s, "pass 0 of ", " to 0;", 0, 5);
        number(s, "pass 0 of 0 to ", ";", 0, 5);
        number(s, "forgive ", ";", 0, 29);
        number(s, "wait ", ";", 1, 99);
    }

    private static void number(Sentences s, String ahead, String behind, int least, int most) {
        s.good(ahead + least + behind);
        s.good(ahead + (least + 1) + behind);
        s.good(ahead + (most - 1) + behind);
        s.good(ahead + most + behind);
        s.good(ahead + "000000" + most + behind);
        s.bad(ahead + (most + 1) + behind, 2, ahead.length());
        s.bad(ahead + "10000" + behind, 2, ahead.length());
        s.bad(ahead + "4294967297" + behind, 2, ahead.length());
        if (least > 0) {
            s.bad(ahead + (least - 1) + behind, 2, ahead.length());
        }
    }

    private static void depth(Sentences s) {
        s.of(PART, "3 the 9th of ( not and - (of one ONE) that are open around one another (at it).");
        for (int n = 7; n <= 10; n++) {
            around(s, "weighs " + "(".repeat(n) + "1" + ")".repeat(n) + ";", n, 15);
            around(s, "weighs " + "-".repeat(n) + "1;", n, 15);
            around(s, "goes " + "not ".repeat(n) + "1=1;", n, 37);
            around(s, "goes not " + "(".repeat(n - 1) + "1" + ")".repeat(n - 1) + "=1;", n, 16);
            around(s, "goes not 1=" + "-".repeat(n - 1) + "1;", n, 18);
            around(s, "goes not not -" + "(".repeat(n - 3) + "1" + ")".repeat(n - 3) + "=1;", n, 19);
            around(s, "weighs -(" + "-".repeat(n - 2) + "1);", n, 15);
            around(s, "weighs 1+2*" + "(1+2*".repeat(n) + "3" + ")".repeat(n) + ";", n, 51);
        }
        s.bad("weighs " + "-".repeat(9), 3, 15);
        s.bad("goes " + "not ".repeat(9), 3, 37);
        s.bad("weighs " + DEEP_8 + "-1", 3, 15);
        s.bad("weighs " + DEEP_8 + "1+-1", 3, 17);
        s.bad("weighs " + DEEP_8 + "1*(1", 3, 17);
        // One of the end or of 8 is no FAULT of depth.
        s.bad("weighs " + DEEP_8, 1, 15);
        s.bad("weighs " + DEEP_8 + "1" + ")".repeat(9) + ";", 1, 24);
    }

    private static void around(Sentences s, String text, int n, int ninth) {
        if (n <= 8) {
            s.good(text);
        } else {
            s.bad(text, 3, ninth);
        }
    }

    private static void depthOfWhatHasEnded(Sentences s) {
        s.of(PART, "that are open around one another");
        s.good("weighs " + "(1)+".repeat(20) + "1;");
        s.good("weighs " + "-1*".repeat(20) + "1;");
        s.good("weighs 1" + "-1".repeat(20) + ";");
        s.good("goes 1=1" + " and not 1=1".repeat(20) + ";");
        s.good("goes 1=1" + " or not 1=1".repeat(20) + ";");
        s.good("weighs " + DEEP_8 + "1" + ")".repeat(8) + "+" + DEEP_8 + "1" + ")".repeat(8) + ";");
        s.good("weighs --------1+--------1;");
        s.good("goes not not not not not not not not 1=1 and not not not not not not not not 1=1;");
        s.good("goes --------1=--------1;");
        s.good("goes not -------1=-------1 or --------1=((((((((1))))))));");
        s.good("weighs -(-(-(-(1+1)+1)+1)+1)+--------1;");
        s.bad("goes not -------1=--------1;", 3, 25);
        s.good("weighs 1; goes " + DEEP_8 + "1" + ")".repeat(8) + "=1;");
    }

    private static void secondLaws(Sentences s) {
        s.of(PART, "4 weighs, goes for the second time (at it).");
        s.good("weighs 1; wait 1; goes 1=1;");
        s.bad("weighs 1; wait 1; weighs 1;", 4, 18);
        s.bad("goes 1=1; wait 1; goes 1=1;", 4, 18);
        s.bad("goes 1=1; weighs 1; goes", 4, 20);
        s.bad("goes 1=1; weighs 1; weighs", 4, 20);
        s.bad("weighs 1;weighs", 4, 9);
    }

    private static void sinInWeighs(Sentences s) {
        s.of(PART, "5 sin in weighs (at it).");
        s.bad("weighs sin;", 5, 7);
        s.bad("weighs kind + sin;", 5, 14);
        s.bad("weighs kind * sin;", 5, 14);
        s.bad("weighs -sin;", 5, 8);
        s.bad("weighs (sin);", 5, 8);
        s.bad("goes sin=1; weighs sin;", 5, 19);
        s.good("goes sin=sin;");
        s.good("weighs 1; sin 1 of 1; goes sin=1;");
        s.good("weighs 1; goes sin=1;");
    }

    private static void tooManyClauses(Sentences s) {
        s.of(PART, "6 the 25th CLAUSE (at its first TOKEN).");
        String[] starts = {"weighs", "goes", "vow", "sin", "pass", "forgive", "wait"};
        for (String start : starts) {
            s.bad("wait 1;".repeat(24) + start, 6, 168);
            s.bad("wait 1;".repeat(24) + "  " + start, 6, 170);
            s.bad("wait 1;".repeat(23) + start, 1, 161 + start.length());
        }
        s.good("wait 1;".repeat(24) + " \n");
        s.bad("wait 1;".repeat(24) + " wait 1; wait 1; wait 1;", 6, 169);
    }

    private static void theText(Sentences s) {
        s.of(PART, "THE TEXT (told; at first none) rules.");
        VeilOfStones x = Check.convent(1);
        x.vow(1, 0);
        x.vow(4, 0);
        s.due("about(5) at first", x.about(5), -1);
        Check.read(x, "weighs 30; goes kind = 4;");
        Check.read(x, "weighs 40; goes kind = 4 and sin = 2;");
        s.due("about(5) with TEXTS", x.about(5), -1);
        s.due("veil(0, 0) by none", x.veil(0, 0), 7);
        s.due("light(0, 3, 0) by none", x.light(0, 3, 0), 4);
        x.by(0);
        s.due("veil(0, 0) by TEXT 0", x.veil(0, 0), 60);
        s.due("light(0, 30, 0) by TEXT 0", x.light(0, 30, 0), 0);
        x.by(1);
        s.due("veil(0, 0) by TEXT 1", x.veil(0, 0), 80);
        s.due("light(0, 40, 0) by TEXT 1", x.light(0, 40, 0), 2);
        x.by(-1);
        s.due("veil(0, 0) by none again", x.veil(0, 0), 7);
    }

    private static void played(Sentences s) {
        s.of(PART, "PLAYED by a TEXT: its clauses but weighs and goes, in their order");
        VeilOfStones x = Check.convent(2);
        Check.read(x, "vow 1 of 0; weighs 9; vow 2 of 0; wait 3; goes 1=1; vow 1 of 1; sin 2 of 0;"
            + " forgive 1; pass 1 of 0 to 1;");
        s.due("played(0)", x.played(0), -1);
        s.due("about(5): its laws don't rule by that", x.about(5), -1);
        int[] kinds = {1, 2, 1};
        int[] sewn = {0, 0, 3};
        int[] where = {1, 0, 1};
        for (int i = 0; i < 3; i++) {
            s.due("stone(" + i + ", 0)", x.stone(i, 0), kinds[i]);
            s.due("stone(" + i + ", 1)", x.stone(i, 1), sewn[i]);
            s.due("stone(" + i + ", 2)", x.stone(i, 2), where[i]);
        }
        VeilOfStones y = new VeilOfStones();
        Check.read(y, "");
        Check.read(y, "weighs 1; goes 1=1;");
        s.due("played(0) without CLAUSES", y.played(0), -1);
        s.due("played(1) with laws alone", y.played(1), -1);
        s.due("about(6)", y.about(6), 0);
    }

    private static void playedAsByHand(Sentences s) {
        s.of(PART, "as by hand");
        s.same("PLAYED and by hand", x -> {
            Convents.some(x);
            x.end(0);
            Check.read(x, "vow 3 of 1; sin 5 of 1; pass 1 of 1 to 0; forgive 1; wait 2; goes 1=1;");
            x.played(2);
        }, x -> {
            Convents.some(x);
            x.end(0);
            Check.read(x, "vow 3 of 1; sin 5 of 1; pass 1 of 1 to 0; forgive 1; wait 2; goes 1=1;");
            x.vow(3, 1);
            x.sin(5, 1);
            x.pass(1, 1, 0);
            x.forgive(1);
            x.later(2);
        }, Sight.values());
        // THE TEXT rules the SINS, not the one that is PLAYED.
        VeilOfStones x = Check.convent(1);
        Check.read(x, "vow 1 of 0; vow 2 of 0; sin 2 of 0; goes 1=1;");
        s.due("played(0) by none", x.played(0), -1);
        s.due("veil(0, 1)", x.veil(0, 1), 1);
        x.by(0);
        s.due("played(0) by itself", x.played(0), -1);
        s.due("veil(0, 1)", x.veil(0, 1), 4 + 8);
    }

    private static void playedToAnEnd(Sentences s) {
        s.of(PART, "one that can't be ends it: its number among all CLAUSES (from 0)");
        String[] cannot = {"vow 0 of 3;", "sin 0 of 0;", "sin 0 of 3;", "pass 0 of 0 to 1;", "pass 1 of 0 to 0;",
            "pass 1 of 0 to 3;", "forgive 0;", "forgive 9;", "wait 99;"};
        for (String clause : cannot) {
            VeilOfStones x = Check.convent(2);
            x.vow(1, 0);
            Convents.days(x, 901);
            s.due("text()", Check.read(x, clause), 0);
            s.due("played(0) of " + clause, x.played(0), 0);
            s.due("text()", Check.read(x, "weighs 1; goes 1=1; vow 1 of 1;" + clause + "vow 2 of 1;"), 1);
            s.due("played(1) with " + clause + " as the fourth", x.played(1), 3);
            s.due("about(1): none behind it is done", x.about(1), 2);
        }
        VeilOfStones x = Check.convent(1);
        Check.read(x, "wait 1;".repeat(23) + "sin 0 of 0;");
        s.due("played(0): the last of 24", x.played(0), 23);
        x.vow(0, 0);
        s.due("played(0): all is done", x.played(0), -1);
        VeilOfStones y = Check.convent(1);
        Check.read(y, "vow 0 of 0;".repeat(9));
        s.due("played(0): the 9th has no room", y.played(0), 8);
    }

    private static void playedStays(Sentences s) {
        s.of(PART, "what was done stays.");
        VeilOfStones x = Check.convent(1);
        Check.read(x, "vow 1 of 0; wait 4; sin 5 of 0; wait 7;");
        s.due("played(0)", x.played(0), 2);
        s.due("about(1)", x.about(1), 1);
        s.due("DAY", x.about(3), 4);
        s.due("about(6)", x.about(6), 5);
        s.due("undo()", x.undo(), 4);
        s.due("DAY", x.about(3), 3);
        VeilOfStones y = new VeilOfStones();
        Convents.days(y, 995);
        Check.read(y, "wait 3; wait 2;");
        s.due("played(0) on DAY 995", y.played(0), 1);
        s.due("DAY: no DAY of one that can't be", y.about(3), 998);
    }
}
