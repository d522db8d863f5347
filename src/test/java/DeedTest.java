/** Promises 1, 2, 8 to 12, 16, 17 and 29: SISTERS, STONES and what is done to them by hand. */
public final class DeedTest {
    public static void main(String[] args) {
        Check check = new Check();
        aNewOne(check);
        sisters(check);
        vows(check);
        sins(check);
        passing(check);
        forgiving(check);
        days(check);
        views(check);
        check.end();
    }

    private static void aNewOne(Check check) {
        VeilOfStones x = new VeilOfStones();
        int[] want = {0, 0, 0, 0, 0, -1, 0, 0, 0, -2};
        for (int i = 0; i < want.length; i++) {
            check.due("about(" + i + ") of a new one", x.about(i), want[i]);
        }
        check.due("about(-1)", x.about(-1), -2);
        check.due("about(MAX)", x.about(Integer.MAX_VALUE), -2);
        x.sister();
        x.vow(1, 0);
        check.due("back() to the first IMAGE", x.back(), 0);
        check.due("SISTERS", x.about(0), 0);
        check.due("STONES", x.about(1), 0);
        check.due("NONE", VeilOfStones.NONE, -1);
    }

    private static void sisters(Check check) {
        VeilOfStones x = new VeilOfStones();
        for (int i = 0; i < 6; i++) {
            check.due("about(0)", x.about(0), i);
            check.due("sister()", x.sister(), i);
        }
        check.due("the 7th sister()", x.sister(), -1);
        check.due("about(0)", x.about(0), 6);
        check.due("no STEP", x.about(6), 0);
    }

    private static void vows(Check check) {
        VeilOfStones x = Check.convent(5);
        check.due("vow(-1, 0)", x.vow(-1, 0), -1);
        check.due("vow(6, 0)", x.vow(6, 0), -1);
        check.due("vow(0, 5)", x.vow(0, 5), -1);
        check.due("vow(0, -1)", x.vow(0, -1), -1);
        check.due("vow(MAX, MAX)", x.vow(Integer.MAX_VALUE, Integer.MAX_VALUE), -1);
        check.due("about(6)", x.about(6), 0);
        for (int i = 0; i < 8; i++) {
            check.due("vow(5, 0)", x.vow(5, 0), i);
        }
        check.due("vow(5, 0): the 9th", x.vow(5, 0), -1);
        check.due("about(6)", x.about(6), 8);
        for (int i = 8; i < 30; i++) {
            check.due("vow", x.vow(i % 6, 1 + i % 3), i);
        }
        check.due("the 31st STONE", x.vow(0, 4), -1);
        check.due("about(1)", x.about(1), 30);
        check.due("about(6)", x.about(6), 30);
        check.due("the 30th is in its veil", x.stone(29, 2), 1 + 29 % 3);
        // One that is GRAVEL leaves room in the veil, and counts as a STONE yet.
        VeilOfStones y = Check.convent(1);
        for (int i = 0; i < 8; i++) {
            y.vow(0, 0);
        }
        y.sin(0, 0);
        check.due("vow(1, 0)", y.vow(1, 0), 8);
        check.due("about(1)", y.about(1), 9);
        check.due("about(2)", y.about(2), 1);
    }

    private static void sins(Check check) {
        VeilOfStones x = Check.convent(2);
        x.vow(3, 0);
        x.vow(2, 0);
        x.vow(2, 1);
        x.vow(2, 0);
        check.due("sin(2, 0): her lowest", x.sin(2, 0), 1);
        check.due("where it is", x.stone(1, 2), 6);
        check.due("whose it was", x.stone(1, 3), 0);
        check.due("sin(2, 0)", x.sin(2, 0), 3);
        check.due("sin(2, 0)", x.sin(2, 0), -1);
        check.due("sin(4, 0)", x.sin(4, 0), -1);
        check.due("sin(6, 0)", x.sin(6, 0), -1);
        check.due("sin(-1, 0)", x.sin(-1, 0), -1);
        check.due("sin(2, 2)", x.sin(2, 2), -1);
        check.due("sin(2, -1)", x.sin(2, -1), -1);
        check.due("about(2)", x.about(2), 2);
        check.due("about(6)", x.about(6), 6);
        // goes may be so for any SIN of 0 .. 5, for others it is not asked.
        Check.read(x, "goes 1 = 1;");
        x.by(0);
        check.due("sin(6, 0)", x.sin(6, 0), -1);
        check.due("sin(-1, 0)", x.sin(-1, 0), -1);
        check.due("sin(5, 0)", x.sin(5, 0), 0);
        check.due("sin(5, 0)", x.sin(5, 0), -1);
    }

    private static void passing(Check check) {
        VeilOfStones x = Check.convent(3);
        x.vow(1, 0);
        x.vow(4, 0);
        x.vow(4, 0);
        check.due("pass(4, 0, 1)", x.pass(4, 0, 1), 1);
        check.due("where", x.stone(1, 2), 1);
        check.due("whose", x.stone(1, 3), 1);
        check.due("pass(2, 0, 1)", x.pass(2, 0, 1), -1);
        check.due("pass(4, 0, 0)", x.pass(4, 0, 0), -1);
        check.due("pass(4, 0, 3)", x.pass(4, 0, 3), -1);
        check.due("pass(4, 3, 0)", x.pass(4, 3, 0), -1);
        check.due("pass(4, -1, 0)", x.pass(4, -1, 0), -1);
        check.due("pass(4, 0, -1)", x.pass(4, 0, -1), -1);
        check.due("pass(6, 0, 1)", x.pass(6, 0, 1), -1);
        check.due("pass(-1, 0, 1)", x.pass(-1, 0, 1), -1);
        check.due("about(6)", x.about(6), 4);
        for (int i = 0; i < 7; i++) {
            x.vow(5, 1);
        }
        check.due("pass(4, 0, 1): no room", x.pass(4, 0, 1), -1);
        check.due("about(6)", x.about(6), 11);
        check.due("pass(5, 1, 2)", x.pass(5, 1, 2), 3);
        check.due("pass(4, 0, 1): room", x.pass(4, 0, 1), 2);
        x.sin(1, 0);
        check.due("pass: GRAVEL is in no veil", x.pass(1, 0, 1), -1);
    }

    private static void forgiving(Check check) {
        VeilOfStones x = Check.convent(2);
        x.vow(1, 0);
        check.due("forgive(0): not GRAVEL", x.forgive(0), -1);
        check.due("forgive(1)", x.forgive(1), -1);
        check.due("forgive(-1)", x.forgive(-1), -1);
        check.due("forgive(30)", x.forgive(30), -1);
        check.due("forgive(MIN)", x.forgive(Integer.MIN_VALUE), -1);
        x.pass(1, 0, 1);
        x.sin(1, 1);
        check.due("forgive(0): whose it was last", x.forgive(0), 1);
        check.due("where", x.stone(0, 2), 1);
        check.due("about(2)", x.about(2), 0);
        check.due("about(6)", x.about(6), 4);
        x.sin(1, 1);
        for (int i = 0; i < 8; i++) {
            x.vow(2, 1);
        }
        check.due("forgive(0): no room", x.forgive(0), -1);
        check.due("about(6)", x.about(6), 13);
        x.pass(2, 1, 0);
        check.due("forgive(0): room", x.forgive(0), 1);
    }

    private static void days(Check check) {
        VeilOfStones x = Check.convent(1);
        check.due("later(0)", x.later(0), -1);
        check.due("later(100)", x.later(100), -1);
        check.due("later(-1)", x.later(-1), -1);
        check.due("later(MAX)", x.later(Integer.MAX_VALUE), -1);
        check.due("about(3)", x.about(3), 0);
        check.due("later(1)", x.later(1), 1);
        check.due("about(6)", x.about(6), 1);
        check.due("later(3)", x.later(3), 4);
        check.due("each DAY is a STEP", x.about(6), 4);
        x.vow(0, 0);
        check.due("sewn on DAY 4", x.stone(0, 1), 4);
        for (int i = 0; i < 10; i++) {
            check.due("later(99)", x.later(99), 103 + 99 * i);
            i = i == 8 ? 10 : i;
        }
        check.due("about(3)", x.about(3), 895);
        check.due("later(99)", x.later(99), 994);
        check.due("later(6): beyond 999", x.later(6), -1);
        check.due("about(3)", x.about(3), 994);
        check.due("later(5)", x.later(5), 999);
        check.due("later(1)", x.later(1), -1);
        x.vow(0, 0);
        check.due("sewn on DAY 999", x.stone(1, 1), 999);
        check.due("about(6)", x.about(6), 30);
    }

    private static void views(Check check) {
        VeilOfStones x = Check.convent(6);
        x.later(2);
        x.vow(4, 5);
        int[] want = {4, 2, 5, 5, 5};
        for (int i = 0; i < want.length; i++) {
            check.due("stone(0, " + i + ")", x.stone(0, i), want[i]);
        }
        check.due("stone(0, 5)", x.stone(0, 5), -1);
        check.due("stone(0, -1)", x.stone(0, -1), -1);
        check.due("stone(1, 0)", x.stone(1, 0), -1);
        check.due("stone(-1, 0)", x.stone(-1, 0), -1);
        check.due("stone(30, 1)", x.stone(30, 1), -1);
        check.due("stone(31, 0)", x.stone(31, 0), -1);
        x.vow(0, 1);
        x.vow(5, 5);
        check.due("veil(5, 0)", x.veil(5, 0), 11);
        check.due("veil(5, 1)", x.veil(5, 1), 5);
        check.due("veil(1, 1)", x.veil(1, 1), 2);
        check.due("veil(0, 0)", x.veil(0, 0), 0);
        check.due("veil(0, 1)", x.veil(0, 1), 0);
        check.due("veil(5, 2)", x.veil(5, 2), -1);
        check.due("veil(5, -1)", x.veil(5, -1), -1);
        check.due("veil(6, 1): GRAVEL is no veil", x.veil(6, 1), -1);
        check.due("veil(-1, 0)", x.veil(-1, 0), -1);
        x.undo();
        check.due("stone(2, 0): taken back", x.stone(2, 0), -1);
        check.due("veil(5, 1)", x.veil(5, 1), 1);
        for (int i = 0; i < 28; i++) {
            x.vow(0, i / 7 + (i < 7 ? 0 : 1));
        }
        check.due("the highest bit", x.veil(4, 1), 0x3F800000);
    }
}
