/** Promises 18 to 22: SPREAD, LEVEL, PROCESSION, LIGHT and DONE. */
public final class OrderTest {
    public static void main(String[] args) {
        Check check = new Check();
        spread(check);
        level(check);
        levelWithRoom(check);
        levelWithMuchGravel(check);
        procession(check);
        light(check);
        lightByLaw(check);
        done(check);
        doneByLaw(check);
        check.end();
    }

    /** A convent whose veils weigh so, a STONE each. */
    private static VeilOfStones weighing(int... kinds) {
        VeilOfStones x = Check.convent(kinds.length);
        for (int i = 0; i < kinds.length; i++) {
            if (kinds[i] > 0) {
                x.vow(kinds[i] - 1, i);
            }
        }
        return x;
    }

    private static void spread(Check check) {
        check.due("spread() without SISTERS", new VeilOfStones().spread(), 0);
        check.due("spread() of one", weighing(5).spread(), 0);
        check.due("spread() of two", weighing(5, 2).spread(), 3);
        check.due("spread() with an empty veil", weighing(5, 2, 0).spread(), 5);
        check.due("spread() of six", weighing(3, 4, 6, 1, 2, 5).spread(), 5);
        check.due("spread() of like ones", weighing(3, 3, 3, 3, 3, 3).spread(), 0);
        VeilOfStones x = weighing(3, 1, 2);
        Check.read(x, "weighs 20 * kind + sister;");
        x.by(0);
        check.due("spread() by a TEXT", x.spread(), 39);
        x.sin(2, 0);
        check.due("GRAVEL weighs in no veil", x.spread(), 22);
    }

    private static void level(Check check) {
        VeilOfStones x = Check.convent(2);
        check.due("level(0)", x.level(0), 0);
        check.due("level(-1)", x.level(-1), -1);
        check.due("level(1000)", x.level(1000), -1);
        check.due("level(999)", x.level(999), 0);
        // SISTER 0 has 6; SISTER 1 had 1, 2, 3, 4, 3 (STONES 1 .. 5), all GRAVEL.
        x.vow(5, 0);
        int[] kinds = {0, 1, 2, 3, 2};
        for (int kind : kinds) {
            x.vow(kind, 1);
        }
        for (int kind : kinds) {
            x.sin(kind, 1);
        }
        check.due("level(6)", x.level(6), 0);
        check.due("level(5): one, the lowest", x.level(5), 2);
        check.due("level(4)", x.level(4), 4);
        check.due("level(3)", x.level(3), 8);
        check.due("level(2)", x.level(2), 16);
        // Of 4 + 1, 3 + 2, 3 + 2 (later), 3 + 3 ..: the lowest with 5 is {2, 3} = 12.
        check.due("level(1)", x.level(1), 12);
        // 6: {2, 4} = 20, {3, 5} = 40.
        check.due("level(0)", x.level(0), 20);
        check.due("nothing is done", x.about(2), 5);
        check.due("about(6)", x.about(6), 11);
        x.vow(5, 0);
        x.vow(5, 0);
        check.due("level(4): 18 less 13 at most", x.level(4), -1);
        check.due("level(5)", x.level(5), 62);
        // The fewest go ahead of the lowest: {1, 2} is lower than {3}.
        VeilOfStones y = Check.convent(2);
        y.vow(2, 0);
        y.vow(0, 1);
        y.vow(1, 1);
        y.vow(2, 1);
        y.sin(0, 1);
        y.sin(1, 1);
        y.sin(2, 1);
        check.due("level(0)", y.level(0), 8);
        check.due("undo()", y.undo(), 6);
        check.due("level(0)", y.level(0), 0);
    }

    private static void levelWithRoom(Check check) {
        VeilOfStones x = Check.convent(2);
        x.vow(3, 0);
        x.vow(3, 0);
        x.vow(2, 1);
        x.vow(0, 1);
        x.sin(2, 1);
        x.sin(0, 1);
        for (int i = 0; i < 7; i++) {
            x.vow(5, 1);
        }
        check.due("spread()", x.spread(), 42 - 8);
        Check.read(x, "weighs 8 / (kind + 1);");
        x.by(0);
        // SISTER 0: 4; SISTER 1: 7, and GRAVEL of 2 (STONE 2) and 8 (STONE 3).
        check.due("spread() by a TEXT", x.spread(), 3);
        check.due("level(3)", x.level(3), 0);
        check.due("level(2)", x.level(2), -1);
        for (int i = 0; i < 6; i++) {
            x.vow(0, 0);
        }
        // SISTER 0: 52; SISTER 1 has room for one: 9 or 15.
        check.due("level(45)", x.level(45), 0);
        check.due("level(44): the lowest of two", x.level(44), 4);
        check.due("level(43)", x.level(43), 4);
        check.due("level(42)", x.level(42), 8);
        check.due("level(37)", x.level(37), 8);
        check.due("level(36): no room for both", x.level(36), -1);
        x.sin(5, 1);
        check.due("level(36): room for both", x.level(36), 12);
        // The other way round: it is SISTER 0 who has no room for both.
        VeilOfStones y = Check.convent(2);
        y.vow(2, 0);
        y.vow(3, 0);
        y.sin(2, 0);
        y.sin(3, 0);
        for (int i = 0; i < 7; i++) {
            y.vow(0, 0);
            y.vow(1, 1);
        }
        check.due("level(4)", y.level(4), 1);
        check.due("level(3)", y.level(3), 2);
        check.due("level(2)", y.level(2), -1);
        y.sin(0, 0);
        check.due("level(2)", y.level(2), 3);
    }

    private static void levelWithMuchGravel(Check check) {
        VeilOfStones x = Check.convent(2);
        for (int i = 0; i < 13; i++) {
            x.vow(0, i % 2);
        }
        for (int i = 0; i < 12; i++) {
            x.sin(0, i % 2);
        }
        check.due("spread()", x.spread(), 1);
        check.due("level(1)", x.level(1), 0);
        check.due("level(0) with 12", x.level(0), 2);
        x.sin(0, 0);
        check.due("about(2)", x.about(2), 13);
        check.due("spread()", x.spread(), 0);
        check.due("level(0) with 13", x.level(0), -1);
        check.due("level(999) with 13", x.level(999), -1);
        x.forgive(12);
        check.due("level(0) with 12", x.level(0), 2);
        // All twelve are needed: of SISTER 0 and 1 six each, SISTER 2 has 6.
        VeilOfStones y = Check.convent(3);
        for (int i = 0; i < 12; i++) {
            y.vow(0, i % 2);
        }
        for (int i = 0; i < 12; i++) {
            y.sin(0, i % 2);
        }
        y.vow(5, 2);
        check.due("level(0) with all", y.level(0), 4095);
        check.due("level(1)", y.level(1), 1023);
        check.due("level(5)", y.level(5), 3);
    }

    private static void marches(Check check, VeilOfStones x, int step, int... order) {
        check.due("procession(-1)", x.procession(-1), step);
        for (int i = 0; i < order.length; i++) {
            check.due("procession(" + i + ")", x.procession(i), order[i]);
        }
        check.due("procession behind the last", x.procession(order.length), -2);
        check.due("procession(-2)", x.procession(-2), -2);
        check.due("procession(MAX)", x.procession(Integer.MAX_VALUE), -2);
    }

    private static void procession(Check check) {
        marches(check, new VeilOfStones(), 0);
        marches(check, weighing(4), 0, 0);
        marches(check, weighing(1, 6), 5, 0, 1);
        marches(check, weighing(1, 5, 3), 2, 0, 2, 1);
        marches(check, weighing(3, 1, 5), 2, 1, 0, 2);
        marches(check, weighing(2, 2, 2, 2, 2, 2), 0, 0, 1, 2, 3, 4, 5);
        marches(check, weighing(6, 1, 5, 2, 4, 3), 1, 0, 2, 4, 5, 3, 1);
        // The step of 3 must be done once, the others may be up to it.
        marches(check, weighing(6, 1, 3, 6, 2, 1), 3, 0, 3, 2, 1, 4, 5);
        VeilOfStones x = weighing(1, 2, 3);
        Check.read(x, "weighs kind * kind * 10;");
        x.by(0);
        marches(check, x, 30, 0, 1, 2);
    }

    private static void light(Check check) {
        VeilOfStones x = Check.convent(2);
        int[] kinds = {2, 2, 0, 5};
        for (int kind : kinds) {
            x.vow(kind, 0);
        }
        check.due("light(0, 13, -1)", x.light(0, 13, -1), 0);
        check.due("light(0, 13, 0)", x.light(0, 13, 0), -1);
        check.due("light(0, 12, -1)", x.light(0, 12, -1), 1);
        check.due("light(0, 12, 0): the lowest SIN", x.light(0, 12, 0), 0);
        check.due("light(0, 11, 0)", x.light(0, 11, 0), 2);
        check.due("light(0, 9, 0)", x.light(0, 9, 0), 5);
        check.due("light(0, 6, -1)", x.light(0, 6, -1), 2);
        check.due("light(0, 6, 0)", x.light(0, 6, 0), 0);
        check.due("light(0, 6, 1)", x.light(0, 6, 1), 5);
        check.due("light(0, 4, 0)", x.light(0, 4, 0), 2);
        check.due("light(0, 4, 1)", x.light(0, 4, 1), 5);
        check.due("light(0, 0, -1)", x.light(0, 0, -1), 4);
        int[] row = {0, 2, 2, 5, -1};
        for (int i = 0; i < row.length; i++) {
            check.due("light(0, 0, " + i + ")", x.light(0, 0, i), row[i]);
        }
        check.due("light(0, 0, -2)", x.light(0, 0, -2), -1);
        check.due("light(0, -1, -1)", x.light(0, -1, -1), -1);
        check.due("light(0, 1000, -1)", x.light(0, 1000, -1), -1);
        check.due("light(0, 999, -1)", x.light(0, 999, -1), 0);
        check.due("light(2, 0, -1)", x.light(2, 0, -1), -1);
        check.due("light(-1, 0, -1)", x.light(-1, 0, -1), -1);
        check.due("light(1, 0, -1)", x.light(1, 0, -1), 0);
        check.due("nothing is done", x.about(2), 0);
    }

    private static void lightByLaw(Check check) {
        VeilOfStones x = Check.convent(1);
        // STONES 0 .. 7: each SIN takes the lowest that is above it, SIN 5 takes STONE 7 alone.
        Check.read(x, "weighs stone * 3; goes sin < 5 and stone > sin or sin = 5 and stone = 7;");
        x.by(0);
        for (int i = 0; i < 8; i++) {
            x.vow(0, 0);
        }
        check.due("light(0, 83, 0)", x.light(0, 83, 0), 0);
        check.due("light(0, 63, 0)", x.light(0, 63, 0), 5);
        check.due("light(0, 62, -1)", x.light(0, 62, -1), 2);
        check.due("light(0, 62, 0)", x.light(0, 62, 0), 0);
        check.due("light(0, 62, 1)", x.light(0, 62, 1), 5);
        check.due("light(0, 0, -1)", x.light(0, 0, -1), 7);
        // STONE 0 never goes.
        Check.read(x, "weighs 1 + stone; goes stone > 0;");
        x.by(1);
        check.due("light(0, 1, -1)", x.light(0, 1, -1), 7);
        check.due("light(0, 0, -1): never", x.light(0, 0, -1), -1);
        check.due("light(0, 0, 0): never", x.light(0, 0, 0), -1);
        check.due("light(0, 1, 6)", x.light(0, 1, 6), 0);
        check.due("light(0, 1, 7)", x.light(0, 1, 7), -1);
    }

    private static void done(Check check) {
        VeilOfStones x = Check.convent(2);
        x.vow(0, 0);
        x.vow(1, 0);
        x.vow(2, 0);
        x.vow(2, 0);
        check.due("done(0, 9, 0, false)", x.done(0, 9, 0, false), 1);
        check.due("done(0, 9, 0, true)", x.done(0, 9, 0, true), 0);
        check.due("done(0, 8, 0, false)", x.done(0, 8, 0, false), 0);
        check.due("done(0, 6, 1, false)", x.done(0, 6, 1, false), 1);
        check.due("done(0, 6, 1, true)", x.done(0, 6, 1, true), 4);
        // 6 less: 1 and 2 (two orders), 3 alone is one SIN.
        check.due("done(0, 6, 2, false)", x.done(0, 6, 2, false), 2);
        check.due("done(0, 6, 2, true)", x.done(0, 6, 2, true), 3);
        check.due("done(0, 3, 2, false)", x.done(0, 3, 2, false), 1);
        check.due("done(0, 3, 2, true)", x.done(0, 3, 2, true), 4);
        check.due("done(0, 3, 3, false)", x.done(0, 3, 3, false), 6);
        check.due("done(0, 3, 3, true)", x.done(0, 3, 3, true), 7);
        check.due("done(0, 0, 4, false)", x.done(0, 0, 4, false), 12);
        check.due("done(0, 0, 4, true)", x.done(0, 0, 4, true), 7);
        check.due("done(0, 1, 4, true): no rows", x.done(0, 1, 4, true), 0);
        check.due("done(0, 1, 4, false)", x.done(0, 1, 4, false), 0);
        check.due("done(1, 0, 0, false)", x.done(1, 0, 0, false), 1);
        check.due("done(1, 0, 1, false)", x.done(1, 0, 1, false), 0);
        check.due("done(0, -1, 1, false)", x.done(0, -1, 1, false), -1);
        check.due("done(0, 1000, 1, true)", x.done(0, 1000, 1, true), -1);
        check.due("done(0, 999, 1, true)", x.done(0, 999, 1, true), 0);
        check.due("done(0, 0, -1, false)", x.done(0, 0, -1, false), -1);
        check.due("done(0, 0, 5, false)", x.done(0, 0, 5, false), -1);
        check.due("done(2, 0, 0, false)", x.done(2, 0, 0, false), -1);
        check.due("done(-1, 0, 0, true)", x.done(-1, 0, 0, true), -1);
        check.due("nothing is done", x.about(2), 0);
    }

    private static void doneByLaw(Check check) {
        VeilOfStones x = Check.convent(1);
        Check.read(x, "weighs 10; goes 1 = 1;");
        x.by(0);
        for (int i = 0; i < 8; i++) {
            x.vow(i % 6, 0);
        }
        check.due("all rows of 4", x.done(0, 40, 4, false), 1296);
        check.due("none in each", x.done(0, 40, 4, true), 0);
        check.due("all rows of 1", x.done(0, 70, 1, false), 6);
        Check.read(x, "weighs 10; goes sin = 3 or sin = 4 and kind = 5;");
        x.by(1);
        // SIN 4 takes STONE 5 if SIN 3 has not: it can be once.
        check.due("rows of 2", x.done(0, 60, 2, false), 3);
        check.due("SURE", x.done(0, 60, 2, true), 8);
    }
}
