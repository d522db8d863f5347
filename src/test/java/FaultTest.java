/** Part II and promises 5 and 6: what a TEXT is, and its FAULTS with their places. */
public final class FaultTest {
    public static void main(String[] args) {
        Check check = new Check();
        goodTexts(check);
        misplaced(check);
        numbers(check);
        depth(check);
        laws(check);
        clauses(check);
        check.end();
    }

    private static String times(String text, int n) {
        return text.repeat(n);
    }

    private static void goodTexts(Check check) {
        check.good("");
        check.good(" \n\n ");
        check.good("vow 5 of 5;sin 0 of 0;pass 5 of 0 to 5;forgive 29;wait 99;");
        check.good("vow5of5;sin0of0;pass5of0to5;forgive0;wait1;");
        check.good("weighs kind + age * sister / stone - (1);");
        check.good("goes sin=kind or not kind<1 and age<=2 or stone>3 and sister>=4 and 1#2;");
        check.good("goes not not not 1 = 1;");
        check.good("weighs 9999;goes -sin = - - -3;");
        check.good("weighs 0009999;");
        check.good("pass 1 of 2 to 2;");
        check.good("weighs 1\n;");
        check.good(times(" ", 293) + "wait 1;");
    }

    private static void misplaced(Check check) {
        check.bad("w", 1, 0);
        check.bad(";", 1, 0);
        check.bad("7", 1, 0);
        check.bad("10000", 1, 0);
        check.bad("Weighs 1;", 1, 0);
        check.bad("weighsx 1;", 1, 0);
        check.bad("weigh 1;", 1, 0);
        check.bad("wait\t1;", 1, 4);
        check.bad("wait\r1;", 1, 4);
        check.bad("wait 1;\0", 1, 7);
        check.bad("wait 1; \u00e9", 1, 8);
        check.bad("wait", 1, 4);
        check.bad("wait ", 1, 5);
        check.bad("wait \n ", 1, 7);
        check.bad("wait 1", 1, 6);
        check.bad("wait 1 1;", 1, 7);
        check.bad("wait -1;", 1, 5);
        check.bad("wait (1);", 1, 5);
        check.bad("wait kind;", 1, 5);
        check.bad("vow 1 2;", 1, 6);
        check.bad("vow 1 to 2;", 1, 6);
        check.bad("vow 1 of 2 to 3;", 1, 11);
        check.bad("pass 1 of 2;", 1, 11);
        check.bad("pass 1 of 2 of 3;", 1, 12);
        check.bad("forgive 1 of 1;", 1, 10);
        check.bad("weighs;", 1, 6);
        check.bad("weighs 1", 1, 8);
        check.bad("weighs 1 2;", 1, 9);
        check.bad("weighs 1 kind;", 1, 9);
        check.bad("weighs 1 sin;", 1, 9);
        check.bad("weighs 1 (2);", 1, 9);
        check.bad("weighs (1;", 1, 9);
        check.bad("weighs (1));", 1, 10);
        check.bad("weighs ();", 1, 8);
        check.bad("weighs 1 +;", 1, 10);
        check.bad("weighs + 1;", 1, 7);
        check.bad("weighs * 1;", 1, 7);
        check.bad("weighs 1 < 2;", 1, 9);
        check.bad("weighs not 1;", 1, 7);
        check.bad("weighs 1 or 2;", 1, 9);
        check.bad("weighs of;", 1, 7);
        check.bad("weighs Kind;", 1, 7);
        check.bad("weighs kind1;", 1, 11);
        check.bad("weighs kindage;", 1, 7);
        for (char letter : new char[] {'a', 'z', 'A', 'Z'}) {
            check.bad("weighs kind" + letter + ";", 1, 7);
            check.bad("weighs " + letter + "kind;", 1, 7);
        }
        for (char sign : new char[] {'`', '{', '@', '[', ':', 0, 255, '.', '_'}) {
            check.bad("weighs kind" + sign + ";", 1, 11);
        }
        check.bad("goes 1;", 1, 6);
        check.bad("goes 1 and 2 = 2;", 1, 7);
        check.bad("goes 1 = 2 = 3;", 1, 11);
        check.bad("goes (1 = 2);", 1, 8);
        check.bad("goes (1 and 2) = 2;", 1, 8);
        check.bad("goes (not 1) = 2;", 1, 6);
        check.bad("goes 1 = not 2;", 1, 9);
        check.bad("goes 1 + not 2 = 3;", 1, 9);
        check.bad("goes - not 1 = 2;", 1, 7);
        check.bad("goes not;", 1, 8);
        check.bad("goes 1 = 2 not 3 = 3;", 1, 11);
        check.bad("goes 1 = 2 and;", 1, 14);
        check.bad("goes 1 = 2 or or 1 = 1;", 1, 14);
        check.bad("goes 1 < = 2;", 1, 9);
        check.bad("goes 1 =< 2;", 1, 8);
        check.bad("goes 1 <> 2;", 1, 8);
        check.bad("goes 1 == 2;", 1, 8);
        check.bad("goes 1 ! 2;", 1, 7);
        check.bad("goes 1 >=", 1, 9);
        check.bad("wait 1; goes", 1, 12);
    }

    private static void numbers(Check check) {
        check.bad("vow 6 of 0;", 2, 4);
        check.bad("vow 5 of 6;", 2, 9);
        check.bad("sin 6 of 0;", 2, 4);
        check.bad("sin 0 of 6;", 2, 9);
        check.bad("pass 6 of 0 to 0;", 2, 5);
        check.bad("pass 0 of 6 to 0;", 2, 10);
        check.bad("pass 0 of 0 to 6;", 2, 15);
        check.bad("forgive 30;", 2, 8);
        check.bad("wait 0;", 2, 5);
        check.bad("wait 100;", 2, 5);
        check.bad("wait 10000;", 2, 5);
        check.bad("weighs 10000;", 2, 7);
        check.bad("weighs 1 + 99999999999999999999999999;", 2, 11);
        check.bad("weighs 4294967296;", 2, 7);
        check.bad("goes 1 = 10000;", 2, 9);
        check.bad("weighs 1 10000;", 1, 9);
        check.bad("vow 10000 of 0;", 2, 4);
        // The first as they are come to, whatever the number.
        check.bad("wait 100 !", 2, 5);
        check.bad("wait ! 100", 1, 5);
    }

    private static void depth(Check check) {
        check.good("weighs " + times("(", 8) + "1" + times(")", 8) + ";");
        check.bad("weighs " + times("(", 9) + "1" + times(")", 9) + ";", 3, 15);
        check.good("weighs " + times("-", 8) + "1;");
        check.bad("weighs " + times("-", 9) + "1;", 3, 15);
        check.good("goes " + times("not ", 8) + "1 = 1;");
        check.bad("goes " + times("not ", 9) + "1 = 1;", 3, 37);
        check.good("goes not not -(-(-(1))) = 1;");
        check.bad("goes not not -(-(-(-1))) = 1;", 3, 19);
        check.bad("goes not not -(-(-((1)))) = 1;", 3, 19);
        // Those of the second SUM are inside not as well.
        check.good("goes not 1 = " + times("(", 7) + "1" + times(")", 7) + ";");
        check.bad("goes not 1 = " + times("(", 8) + "1" + times(")", 8) + ";", 3, 20);
        // What has ended is open no more.
        check.good("weighs (((((((1))))))) + --------1 * -(((((((2))))))) - 3;");
        check.good("goes not not not not not not not not 1 = 1 and not not not not not not not not 2 = 2;");
        check.good("goes not -1 = 1 or " + times("(", 8) + "1" + times(")", 8) + " = 1;");
        check.good("weighs -1 + -1 + -1 + -1 + -1 + -1 + -1 + -1 + -1 + -1;");
        check.good("weighs 1 - 1 - 1 - 1 - 1 - 1 - 1 - 1 - 1 - 1 - 1;");
        check.bad("weighs -(1 + " + times("(", 6) + "-1", 3, 19);
        check.good("weighs " + times("(1+2*", 8) + "3" + times(")", 8) + "; goes 1=2 or 3=4 and not 5 < 1+2*"
            + times("(1+2*", 7) + "3" + times(")", 7) + ";");
    }

    private static void laws(Check check) {
        check.bad("weighs 1; weighs 2;", 4, 10);
        check.bad("goes 1=1; wait 1; goes 2=2;", 4, 18);
        check.good("goes 1=1; weighs 2;");
        check.bad("weighs weighs 1;", 1, 7);
        check.bad("weighs sin;", 5, 7);
        check.bad("weighs kind + (2 * sin);", 5, 19);
        check.bad("weighs -sin;", 5, 8);
        check.bad("weighs kind; sin sin", 1, 17);
        check.good("weighs kind; sin 1 of 1; goes sin = 1;");
    }

    private static void clauses(Check check) {
        check.good(times("wait 1;", 24));
        check.good("weighs 1;goes 1=1;" + times("wait 1;", 22));
        check.bad(times("wait 1;", 25), 6, 168);
        check.bad(times("wait 1;", 24) + "  vow !", 6, 170);
        check.bad(times("wait 1;", 24) + "weighs 1;", 6, 168);
        check.bad(times("wait 1;", 24) + "!", 1, 168);
        check.bad(times("wait 1;", 24) + "of", 1, 168);
        check.bad("weighs 1;" + times("wait 1;", 23) + "weighs 1;", 4, 170);
        check.bad("weighs 1;" + times("wait 1;", 23) + "goes 1=1;", 6, 170);
        check.bad("goes 1=1;" + times("wait 1;", 23) + "goes 1=1;", 4, 170);
        check.bad("weighs 1;goes 1=1;" + times("wait 1;", 23), 6, 18 + 154);
    }
}
