/** Part II of the document: what laws are and say, sentence by sentence, at their bounds. */
final class LawBounds {
    private static final String PART = "Part II";

    static void all(Sentences s) {
        eithers(s);
        boths(s);
        asks(s);
        sums(s);
        products(s);
        ones(s);
        names(s);
        age(s);
        sister(s);
        stone(s);
        sin(s);
        fromTheLeft(s);
        cuts(s);
        held(s);
        bothSides(s);
    }

    private static void is(Sentences s, String sum, int want) {
        s.weighs(sum, 0, 0, 0, want);
    }

    private static void eithers(Sentences s) {
        s.of(PART, "EITHER: BOTH {or BOTH}.");
        s.goes("1=1", 0, true);
        s.goes("1=2", 0, false);
        s.goes("1=2 or 1=2", 0, false);
        s.goes("1=1 or 1=2", 0, true);
        s.goes("1=2 or 1=1", 0, true);
        s.goes("1=2" + " or 1=2".repeat(40) + " or 1=1", 0, true);
        s.goes("1=2" + " or 1=2".repeat(40), 0, false);
        s.goes("1=1 or 1=1 and 1=2", 0, true);
        s.goes("1=2 and 1=1 or 1=1", 0, true);
        s.bad("goes or 1=1;", 1, 5);
        s.bad("goes 1=1 or;", 1, 11);
        s.bad("goes 1=1 or", 1, 11);
        s.bad("goes 1=1 or or 1=1;", 1, 12);
        s.bad("goes 1=1 1=1;", 1, 9);
        s.bad("goes 1 or 1=1;", 1, 7);
        s.bad("weighs 1 or 1;", 1, 9);
    }

    private static void boths(Sentences s) {
        s.of(PART, "BOTH: ASK {and ASK}.");
        s.goes("1=1 and 1=1", 0, true);
        s.goes("1=1 and 1=2", 0, false);
        s.goes("1=2 and 1=1", 0, false);
        s.goes("1=1" + " and 1=1".repeat(35), 0, true);
        s.goes("1=1" + " and 1=1".repeat(34) + " and 1=2", 0, false);
        s.bad("goes and 1=1;", 1, 5);
        s.bad("goes 1=1 and;", 1, 12);
        s.bad("goes 1=1 and", 1, 12);
        s.bad("goes 1=1 and and 1=1;", 1, 13);
        s.bad("goes 1=1 and or 1=1;", 1, 13);
        s.bad("goes 1 and 1=1;", 1, 7);
    }

    private static void asks(Sentences s) {
        s.of(PART, "ASK: not ASK, or SUM one of < <= > >= = # (unlike) SUM.");
        String[] signs = {"<", "<=", ">", ">=", "=", "#"};
        boolean[][] so = {
            {true, false, false}, {true, true, false}, {false, false, true},
            {false, true, true}, {false, true, false}, {true, false, true}
        };
        for (int i = 0; i < signs.length; i++) {
            for (int less = -1; less <= 1; less++) {
                // KIND is 2.
                s.goes("kind + " + (less + 1) + signs[i] + "3", 0, so[i][less + 1]);
                s.goes("not kind + " + (less + 1) + signs[i] + "3", 0, !so[i][less + 1]);
                s.goes("not not kind + " + (less + 1) + signs[i] + "3", 0, so[i][less + 1]);
            }
        }
        s.goes("not 1=2 and 1=2", 0, false);
        s.goes("not 1=1 or 1=1", 0, true);
        s.bad("goes not;", 1, 8);
        s.bad("goes not 1;", 1, 10);
        s.bad("goes 1=;", 1, 7);
        s.bad("goes =1;", 1, 5);
        s.bad("goes 1=1=1;", 1, 8);
        s.bad("goes (1=1);", 1, 7);
        s.bad("goes not (not 1=1);", 1, 10);
        s.bad("goes 1=not 1;", 1, 7);
        s.bad("goes 1 not=1;", 1, 7);
    }

    private static void sums(Sentences s) {
        s.of(PART, "SUM: PRODUCT {+ or - PRODUCT}.");
        is(s, "7", 7);
        is(s, "7 + 2", 9);
        is(s, "7 - 2", 5);
        is(s, "0" + "+1".repeat(98), 98);
        is(s, "90" + "-1".repeat(80), 10);
        is(s, "5 + 2 * 3", 11);
        is(s, "2 * 3 + 5", 11);
        s.bad("weighs +1;", 1, 7);
        s.bad("weighs 1+;", 1, 9);
        s.bad("weighs 1++1;", 1, 9);
        s.bad("weighs 1-;", 1, 9);
        s.good("weighs 1--1;");
        s.bad("weighs 1-+1;", 1, 9);
    }

    private static void products(Sentences s) {
        s.of(PART, "PRODUCT: ONE {* or / ONE}.");
        is(s, "6 * 2", 12);
        is(s, "6 / 2", 3);
        is(s, "3" + "*1".repeat(100), 3);
        is(s, "64" + "/2".repeat(6), 1);
        is(s, "-2 * -3", 6);
        is(s, "2 * -3 + 10", 4);
        s.bad("weighs *1;", 1, 7);
        s.bad("weighs /1;", 1, 7);
        s.bad("weighs 1*;", 1, 9);
        s.bad("weighs 1**1;", 1, 9);
        s.bad("weighs 1*/1;", 1, 9);
        s.good("weighs 1*-1;");
    }

    private static void ones(Sentences s) {
        s.of(PART, "ONE: NUMBER, NAME, ( SUM ), - ONE.");
        is(s, "0", 0);
        is(s, "9999", 99);
        s.weighs("kind", 5, 0, 0, 5);
        is(s, "(4)", 4);
        is(s, "(1 + 2) * (7 - 3)", 12);
        is(s, "- - 4", 4);
        is(s, "-(-4)", 4);
        is(s, "--------4", 4);
        is(s, "((((((((4))))))))", 4);
        s.weighs("9 - -kind", 3, 0, 0, 12);
        s.bad("weighs ();", 1, 8);
        s.bad("weighs (1;", 1, 9);
        s.bad("weighs 1);", 1, 8);
        s.bad("weighs (1));", 1, 10);
        s.bad("weighs (1", 1, 9);
        s.bad("weighs -;", 1, 8);
        s.bad("weighs -", 1, 8);
        s.bad("weighs (1)(1);", 1, 10);
        s.bad("weighs (1)1;", 1, 10);
        s.bad("weighs 1(1);", 1, 8);
        s.bad("weighs weighs;", 1, 7);
    }

    private static void names(Sentences s) {
        s.of(PART, "NAMES: kind");
        for (int kind = 0; kind < 6; kind++) {
            s.weighs("kind", kind, 3, 9, kind);
        }
        s.goes("kind = 2", 0, true);
        for (String word : new String[] {"of", "to", "or", "and", "not", "vow", "pass", "forgive", "wait", "goes"}) {
            s.bad("weighs " + word + ";", 1, 7);
        }
        s.bad("weighs day;", 1, 7);
        s.bad("weighs kin;", 1, 7);
        s.bad("weighs kinds;", 1, 7);
        s.bad("weighs Kind;", 1, 7);
    }

    private static void age(Sentences s) {
        s.of(PART, "age (DAY less that on which it was sewn)");
        s.weighs("age", 5, 4, 0, 0);
        s.weighs("age", 5, 4, 1, 1);
        s.weighs("age", 5, 4, 99, 99);
        s.goes("age = 4", 0, true);
        VeilOfStones x = Check.convent(1);
        Check.read(x, "weighs age - 950;");
        x.by(0);
        x.vow(0, 0);
        Convents.days(x, 999);
        x.vow(0, 0);
        s.due("stone(0, 4), 999 DAYS old", x.stone(0, 4), 49);
        s.due("stone(1, 4), sewn on DAY 999", x.stone(1, 4), 0);
        x.undo();
        x.undo();
        s.due("stone(0, 4), 998 DAYS old", x.stone(0, 4), 48);
    }

    private static void sister(Sentences s) {
        s.of(PART, "sister (whose it is, or was last)");
        for (int sister = 0; sister < 6; sister++) {
            s.weighs("sister + 10", 1, sister, 2, sister + 10);
        }
        s.goes("sister = 3", 0, true);
        VeilOfStones x = Check.convent(6);
        Check.read(x, "weighs sister;");
        x.by(0);
        x.vow(0, 1);
        x.pass(0, 1, 5);
        s.due("stone(0, 4), passed on", x.stone(0, 4), 5);
        x.sin(0, 5);
        s.due("stone(0, 4) of GRAVEL", x.stone(0, 4), 5);
    }

    private static void stone(Sentences s) {
        s.of(PART, "stone (its number) in both");
        VeilOfStones x = Check.convent(4);
        Check.read(x, "weighs stone; goes stone = 29;");
        x.by(0);
        for (int i = 0; i < 30; i++) {
            x.vow(0, i / 8);
            s.due("stone(" + i + ", 4)", x.stone(i, 4), i);
        }
        s.due("sin(0, 3) by goes", x.sin(0, 3), 29);
        s.due("sin(0, 0) by goes", x.sin(0, 0), -1);
        s.goes("stone = 0", 0, true);
        s.goes("stone = 1", 0, false);
        s.good("weighs kind+age+sister+stone; goes kind+age+sister+stone=0;");
    }

    private static void sin(Sentences s) {
        s.of(PART, "sin in goes.");
        for (int sin = 0; sin < 6; sin++) {
            s.goes("sin = " + sin, sin, true);
            s.goes("sin # " + sin, sin, false);
        }
        s.bad("weighs sin;", 5, 7);
        s.good("goes -(sin) = sin;");
    }

    private static void fromTheLeft(Sentences s) {
        s.of(PART, "From the left");
        is(s, "20 - 5 - 3", 12);
        is(s, "20 - 5 + 3", 18);
        is(s, "100 / 5 / 2", 10);
        is(s, "100 / 5 * 2", 40);
        is(s, "7 * 5 / 2", 17);
        is(s, "7 / 2 * 5", 15);
        is(s, "9999 * 9999 / 9999 - 50", 50);
        is(s, "(9999 * 9999 - 9999 * 100) - 60", 40);
    }

    private static void cuts(Sentences s) {
        s.of(PART, "/ cuts towards 0, by 0 it is 0");
        is(s, "50 + 6 / 2", 53);
        is(s, "50 + 7 / 2", 53);
        is(s, "50 + 8 / 2", 54);
        is(s, "50 + -7 / 2", 47);
        is(s, "50 + 7 / -2", 47);
        is(s, "50 + -7 / -2", 53);
        is(s, "50 + -1 / 2", 50);
        is(s, "50 + 1 / 2", 50);
        is(s, "50 + 9 / 0", 50);
        is(s, "50 + -9 / 0", 50);
        is(s, "50 + 0 / 0", 50);
        is(s, "50 + 9 / (3 - 3) * 7", 50);
        is(s, "50 + 9 / 1", 59);
        is(s, "50 + 9 / -1", 41);
        s.goes("9 / stone = 0", 0, true);
    }

    private static void held(Sentences s) {
        s.of(PART, "what is above 1000000 (below the same less) is that, at each step.");
        String down = " - 9999 * 100 - 50";
        is(s, "1000 * 1000 - 1" + down, 49);
        is(s, "1000 * 1000" + down, 50);
        is(s, "1000 * 1000 + 1" + down, 50);
        is(s, "1001 * 1000" + down, 50);
        is(s, "9999 * 101" + down, 50);
        is(s, "9999 * 9999" + down, 50);
        is(s, "9999 * 9999 * 9999 * 9999 * 9999" + down, 50);
        is(s, "1000 * 1000 - -1" + down, 50);
        String up = " + 9999 * 100 + 150";
        is(s, "-1000 * 1000 + 1" + up, 51);
        is(s, "-1000 * 1000" + up, 50);
        is(s, "-1000 * 1000 - 1" + up, 50);
        is(s, "-1000 * 1001" + up, 50);
        is(s, "-9999 * 9999" + up, 50);
        is(s, "-9999 * 9999 * 9999 * 9999 * 9999" + up, 50);
        is(s, "-1000 * 1000 + -1" + up, 50);
        is(s, "(9999 * 9999 + 9999 * 9999) / 9999 / 2", 50);
        is(s, "9999 * 9999 * (-9999 * 9999) / -9999 / 2", 50);
        s.goes("9999 * 9999 = 1000 * 1000", 0, true);
        s.goes("-9999 * 9999 = -1000 * 1000", 0, true);
        s.goes("1000 * 1000 - 1 = 1000 * 1000", 0, false);
    }

    private static void bothSides(Sentences s) {
        s.of(PART, "or and and look at both sides always.");
        s.goes("1=1 or 1/0=1", 0, true);
        s.goes("1=2 and 1/0=1", 0, false);
        s.goes("1=1 or 9999*9999*9999=1", 0, true);
        s.bad("goes 1=1 or 1=10000;", 2, 14);
        s.bad("goes 1=2 and 1=10000;", 2, 15);
    }
}
