/** Part II: what laws say, by promises 9 (sin) and 16 (stone). */
public final class LawTest {
    public static void main(String[] args) {
        Check check = new Check();
        sums(check);
        limits(check);
        names(check);
        asks(check);
        withoutLaws(check);
        check.end();
    }

    private static void is(Check check, String sum, int want) {
        check.weighs(sum, 0, 0, 0, want);
    }

    private static void sums(Check check) {
        is(check, "1 + 2 * 3", 7);
        is(check, "(1 + 2) * 3", 9);
        is(check, "20 - 5 - 3", 12);
        is(check, "20 - (5 - 3)", 18);
        is(check, "100 / 5 / 2", 10);
        is(check, "100 / 7 * 7", 98);
        is(check, "2 * 7 / 3", 4);
        is(check, "50 + -7 / 2", 47);
        is(check, "50 + 7 / -2", 47);
        is(check, "50 - -7 / -2", 47);
        is(check, "5 + 9 / 0", 5);
        is(check, "5 + 0 / 0", 5);
        is(check, "- - 3", 3);
        is(check, "-3 + 10", 7);
        is(check, "-(3 - 10)", 7);
        is(check, "10 - -3", 13);
        is(check, "2 * -3 + 10", 4);
        is(check, "-2 * -3", 6);
        is(check, "10+2*3-4/2", 14);
    }

    private static void limits(Check check) {
        is(check, "99", 99);
        is(check, "100", 99);
        is(check, "-1", 0);
        is(check, "0", 0);
        is(check, "9999 * 9999 - 9999 * 100 - 60", 40);
        is(check, "9999 * 9999 * 9999 * 9999 - 9999 * 100 - 60", 40);
        is(check, "-9999 * 9999 + 9999 * 100 + 150", 50);
        is(check, "(9999 * 9999 + 9999) / 9999 / 10", 10);
        is(check, "9999 * 100 + 200 - 9999 * 100 - 60", 40);
        is(check, "-9999 * 100 - 200 + 9999 * 100 + 150", 50);
        is(check, "-(9999 * 9999) * -9999 / 9999 / 5", 20);
        is(check, "-(9999 * 9999) * 9999 / -9999 / 5", 20);
    }

    private static void names(Check check) {
        check.weighs("kind", 5, 0, 0, 5);
        check.weighs("kind * 10 + sister", 4, 3, 0, 43);
        check.weighs("age", 1, 1, 0, 0);
        check.weighs("age", 1, 1, 42, 42);
        check.weighs("stone + 7", 1, 1, 3, 7);
        VeilOfStones x = Check.convent(3);
        Check.read(x, "weighs stone * 10 + sister; goes stone = 1;");
        x.by(0);
        x.vow(0, 0);
        x.vow(1, 0);
        x.vow(1, 2);
        check.due("stone(2, 4)", x.stone(2, 4), 22);
        check.due("stone(1, 4)", x.stone(1, 4), 10);
        x.pass(1, 0, 1);
        check.due("passed on: hers then", x.stone(1, 4), 11);
        x.sin(0, 1);
        check.due("GRAVEL: whose it was last", x.stone(1, 4), 11);
        // age goes from the DAY on which it was sewn.
        VeilOfStones y = Check.convent(1);
        Check.read(y, "weighs age;");
        y.by(0);
        y.later(9);
        y.vow(0, 0);
        y.later(5);
        check.due("stone(0, 4)", y.stone(0, 4), 5);
        y.undo();
        check.due("stone(0, 4)", y.stone(0, 4), 4);
    }

    private static void asks(Check check) {
        check.goes("kind = 2", 0, true);
        check.goes("kind = 3", 0, false);
        check.goes("kind # 3", 0, true);
        check.goes("kind # 2", 0, false);
        check.goes("kind < 2", 0, false);
        check.goes("kind < 3", 0, true);
        check.goes("kind <= 2", 0, true);
        check.goes("kind <= 1", 0, false);
        check.goes("kind > 2", 0, false);
        check.goes("kind > 1", 0, true);
        check.goes("kind >= 2", 0, true);
        check.goes("kind >= 3", 0, false);
        check.goes("sin = 4", 4, true);
        check.goes("sin = 4", 3, false);
        check.goes("age = 4 and sister = 3 and stone = 0 and kind = 2", 5, true);
        check.goes("age = 4 and sister = 3 and stone = 1 and kind = 2", 5, false);
        check.goes("not 1 = 1", 0, false);
        check.goes("not 1 = 2", 0, true);
        check.goes("not not 1 = 1", 0, true);
        // not holds its ASK alone; and holds closer than or.
        check.goes("not 1 = 2 and 1 = 2", 0, false);
        check.goes("not 1 = 1 or 1 = 1", 0, true);
        check.goes("1 = 1 or 1 = 1 and 1 = 2", 0, true);
        check.goes("1 = 2 and 1 = 2 or 1 = 1", 0, true);
        check.goes("1 = 2 and 1 = 1 or 1 = 2", 0, false);
        check.goes("1 = 2 or 1 = 1 and 1 = 1", 0, true);
        check.goes("1 = 2 or not 1 = 2 and not 1 = 1", 0, false);
        check.goes("1 + 2 * 3 = 7", 0, true);
        check.goes("7 = 1 + 2 * 3 and -(1) < 0", 0, true);
        check.goes("2 - 1 - 1 = 0 and 2 - (1 - 1) = 2", 0, true);
        check.goes("9999 * 9999 = 9999 * 9998", 0, true);
        // As much as can wait at once: or, and, not, a sign, and + and * around each of the brackets.
        String deep7 = "1+2*" + "(1+2*".repeat(7) + "3" + ")".repeat(7);
        String deep8 = "1+2*" + "(1+2*".repeat(8) + "3" + ")".repeat(8);
        check.goes("1=2 or 1=1 and not 1023 # " + deep7, 0, true);
        check.goes("1=2 or 1=1 and not 1022 # " + deep7, 0, false);
        check.goes("1=2 or 1=1 and 2047 = " + deep8, 0, true);
        check.goes("1=2 or 1=1 and 2048 = " + deep8, 0, false);
    }

    private static void withoutLaws(Check check) {
        VeilOfStones x = Check.convent(1);
        Check.read(x, "goes kind = 5 - sin;");
        Check.read(x, "weighs 10 + kind;");
        Check.read(x, "wait 1;");
        for (int kind = 0; kind < 6; kind++) {
            x.vow(kind, 0);
            check.due("without THE TEXT: KIND and 1", x.stone(kind, 4), kind + 1);
        }
        x.by(0);
        check.due("without weighs: KIND and 1", x.stone(3, 4), 4);
        check.due("goes rules", x.sin(5, 0), 0);
        x.by(1);
        check.due("weighs rules", x.stone(3, 4), 13);
        check.due("without goes: KIND is the SIN", x.sin(4, 0), 4);
        x.by(2);
        check.due("without both", x.stone(3, 4), 4);
        check.due("without both", x.sin(1, 0), 1);
    }
}
