/** Promises 23 to 26: what is TOLD, FITS and NEXT. */
public final class ScalesTest {
    public static void main(String[] args) {
        Check check = new Check();
        telling(check);
        fitting(check);
        next(check);
        nextOfFour(check);
        check.end();
    }

    private static void telling(Check check) {
        VeilOfStones x = Check.convent(3);
        check.due("hush()", x.hush(), 0);
        check.due("tell(0, 0, 0)", x.tell(0, 0, 0), -1);
        check.due("tell(0, 3, 0)", x.tell(0, 3, 0), -1);
        check.due("tell(3, 0, 0)", x.tell(3, 0, 0), -1);
        check.due("tell(-1, 0, 0)", x.tell(-1, 0, 0), -1);
        check.due("tell(0, -1, 0)", x.tell(0, -1, 0), -1);
        check.due("tell(0, 1, 2)", x.tell(0, 1, 2), -1);
        check.due("tell(0, 1, -2)", x.tell(0, 1, -2), -1);
        for (int i = 0; i < 12; i++) {
            check.due("tell", x.tell(i % 3, (i + 1) % 3, i % 3 - 1), i + 1);
        }
        check.due("the 13th", x.tell(0, 1, 0), -1);
        check.due("about(7)", x.about(7), 12);
        check.due("no STEP", x.about(6), 0);
        check.due("hush()", x.hush(), 12);
        check.due("about(7)", x.about(7), 0);
        check.due("hush()", x.hush(), 0);
        check.due("tell", x.tell(0, 1, 0), 1);
    }

    private static void fitting(Check check) {
        VeilOfStones x = Check.convent(2);
        check.due("fits() without TEXTS", x.fits(), 0);
        x.vow(1, 0);
        x.vow(4, 1);
        Check.read(x, "");
        Check.read(x, "weighs 9 - kind;");
        Check.read(x, "weighs 3;");
        Check.read(x, "goes 1 = 1;");
        check.due("nothing is TOLD", x.fits(), 15);
        x.tell(0, 1, 1);
        check.due("0 weighs more", x.fits(), 2);
        x.hush();
        x.tell(1, 0, 1);
        check.due("1 weighs more", x.fits(), 9);
        x.hush();
        x.tell(0, 1, -1);
        check.due("0 weighs less", x.fits(), 9);
        x.hush();
        x.tell(1, 0, 0);
        check.due("both alike", x.fits(), 4);
        x.tell(0, 1, 1);
        check.due("all that was TOLD", x.fits(), 0);
        x.hush();
        x.tell(0, 1, 1);
        x.by(2);
        check.due("whichever rules", x.fits(), 2);
        // STONES and DAY as now, not as when it was TOLD.
        x.vow(0, 1);
        check.due("fits()", x.fits(), 0);
        x.undo();
        check.due("fits()", x.fits(), 2);
        VeilOfStones y = Check.convent(2);
        Check.read(y, "weighs age;");
        y.vow(0, 0);
        y.tell(0, 1, 1);
        check.due("fits() on DAY 0", y.fits(), 0);
        y.later(1);
        check.due("fits() on DAY 1", y.fits(), 1);
    }

    private static void next(Check check) {
        VeilOfStones x = new VeilOfStones();
        Check.read(x, "weighs kind;");
        check.due("next() without SISTERS", x.next(), -1);
        x.sister();
        check.due("next() with one", x.next(), -1);
        x.sister();
        check.due("next() with two", x.next(), 1);
        VeilOfStones y = Check.convent(3);
        check.due("next() without TEXTS", y.next(), -1);
        // KIND: SISTERS 0, 1 alike by both TEXTS, 0 and 2 and 1 and 2 not.
        y.vow(2, 0);
        y.vow(2, 1);
        y.vow(4, 2);
        Check.read(y, "weighs kind;");
        Check.read(y, "weighs 7;");
        check.due("next()", y.next(), 2);
        y.vow(5, 0);
        // 0 weighs more than both by both now: 1 and 2 are told apart.
        check.due("next()", y.next(), 8);
        y.tell(0, 1, -1);
        check.due("next() if none FITS", y.next(), -1);
    }

    private static void nextOfFour(Check check) {
        VeilOfStones x = Check.convent(4);
        for (int i = 0; i < 4; i++) {
            x.vow(i, i);
        }
        Check.read(x, "weighs 5 * (4 - kind);");
        Check.read(x, "weighs kind + 1;");
        Check.read(x, "weighs 9 + kind / 2;");
        Check.read(x, "weighs 9 + kind / 2 * 3;");
        // 0, 1: more, less, alike, alike: 2. 0, 2: more, less, less, less: 3. 1, 2 the same: 3. 2, 3: 2.
        check.due("next()", x.next(), 1);
        x.tell(0, 1, 0);
        check.due("fits()", x.fits(), 12);
        // Both tell alike on all.
        check.due("next()", x.next(), 1);
        x.hush();
        x.tell(0, 2, -1);
        check.due("fits()", x.fits(), 14);
        check.due("next(): 2 at the most alike on 0, 1", x.next(), 1);
        x.vow(5, 0);
        x.vow(5, 1);
        x.hush();
        x.tell(0, 1, -1);
        x.tell(2, 3, -1);
        check.due("fits()", x.fits(), 2);
        check.due("next() of one that FITS", x.next(), 1);
    }
}
