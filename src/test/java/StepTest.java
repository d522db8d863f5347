/** Promises 13 to 15: PLAYED, STORMS and STEPS taken back. */
public final class StepTest {
    public static void main(String[] args) {
        Check check = new Check();
        played(check);
        playedBySteps(check);
        storms(check);
        stormsByLaw(check);
        undone(check);
        check.end();
    }

    private static void played(Check check) {
        VeilOfStones x = Check.convent(2);
        check.due("played(0) without TEXTS", x.played(0), -2);
        Check.read(x, "vow 2 of 0; weighs 1; vow 3 of 1; pass 2 of 0 to 1; goes 1=1; sin 3 of 1; forgive 0; wait 7;");
        Check.read(x, "weighs 5;");
        Check.read(x, "sin 1 of 0; wait 9;");
        Check.read(x, "wait 9; vow 0 of 3; wait 9;");
        check.due("played(-1)", x.played(-1), -2);
        check.due("played(4)", x.played(4), -2);
        // By KIND is the SIN (it does not rule): the SIN takes STONE 1, and STONE 0 is no GRAVEL.
        check.due("played(0)", x.played(0), 6);
        check.due("what was done stays", x.stone(1, 2), 6);
        check.due("STONE 0", x.stone(0, 2), 1);
        check.due("DAY", x.about(3), 0);
        check.due("about(6)", x.about(6), 4);
        check.due("played(1)", x.played(1), -1);
        check.due("it does not rule", x.about(5), -1);
        check.due("played(2)", x.played(2), 0);
        check.due("played(3)", x.played(3), 1);
        check.due("DAY", x.about(3), 9);
        // By goes 1=1 the SIN takes STONE 0.
        VeilOfStones y = Check.convent(2);
        Check.read(y, "vow 2 of 0; weighs 1; vow 3 of 1; pass 2 of 0 to 1; goes 1=1; sin 3 of 1; forgive 0; wait 7;");
        y.by(0);
        check.due("played(0)", y.played(0), -1);
        check.due("DAY", y.about(3), 7);
        check.due("veil(1, 1)", y.veil(1, 1), 3);
        check.due("veil(1, 0)", y.veil(1, 0), 2);
    }

    private static void playedBySteps(Check check) {
        VeilOfStones x = Check.convent(1);
        Check.read(x, "wait 3; vow 1 of 0; wait 99;");
        check.due("played(0)", x.played(0), -1);
        check.due("the latest 30", x.about(6), 30);
        check.due("undo()", x.undo(), 29);
        check.due("DAY", x.about(3), 101);
        for (int i = 0; i < 8; i++) {
            x.later(99);
        }
        x.later(96);
        check.due("DAY", x.about(3), 989);
        x.image();
        check.due("played(0)", x.played(0), 2);
        check.due("those that can't be are not begun", x.about(3), 992);
        Check.read(x, "pass 1 of 0 to 0;");
        check.due("played(1)", x.played(1), 0);
        Check.read(x, "");
        check.due("played(2): no CLAUSES", x.played(2), -1);
    }

    private static void storms(Check check) {
        VeilOfStones x = new VeilOfStones();
        check.due("storm(0, 1) without SISTERS", x.storm(0, 1), -1);
        check.due("no STEP", x.about(6), 0);
        x.sister();
        check.due("storm(-1, 1)", x.storm(-1, 1), -1);
        check.due("storm(10000, 1)", x.storm(10000, 1), -1);
        check.due("storm(0, 0)", x.storm(0, 0), -1);
        check.due("storm(0, 61)", x.storm(0, 61), -1);
        check.due("no STEP", x.about(6), 0);
        check.due("storm(9999, 60)", x.storm(9999, 60), 0);
        check.due("a STEP without SINS", x.about(6), 1);
        check.due("storm(0, 1)", x.storm(0, 1), 0);
        check.due("storm(MAX, 1)", x.storm(Integer.MAX_VALUE, 1), -1);
        check.due("storm(0, MIN)", x.storm(0, Integer.MIN_VALUE), -1);
        // SEED 1: X is 11, 1908, 18237 (11 * 167 + 71 = 1908; 1908 * 167 + 71 = 318707 = 10 * 30047 + 18237).
        VeilOfStones y = Check.convent(2);
        for (int kind = 0; kind < 6; kind++) {
            y.vow(kind, 1);
        }
        check.due("storm(1, 1): SIN 0 of SISTER 1", y.storm(1, 1), 1);
        check.due("STONE 0 is GRAVEL", y.about(2), 1);
        check.due("STONE 0 is GRAVEL", y.stone(0, 2), 6);
        // X is 18237 then: SISTER 1; 18237 * 167 + 71 = 3045650 = 101 * 30047 + 10903: SIN 1.
        y.undo();
        check.due("storm(1, 2)", y.storm(1, 2), 2);
        check.due("STONE 1 is GRAVEL", y.stone(1, 2), 6);
        check.due("one STEP", y.undo(), 6);
        check.due("no GRAVEL", y.about(2), 0);
        check.due("a STORM again", y.storm(1, 60), 6);
    }

    private static void stormsByLaw(Check check) {
        VeilOfStones x = Check.convent(3);
        for (int i = 0; i < 24; i++) {
            x.vow(i % 6, i % 3);
        }
        Check.read(x, "goes kind < sin;");
        x.by(0);
        int sins = x.storm(77, 60);
        int gravel = 0;
        int[] where = new int[24];
        for (int i = 0; i < 24; i++) {
            where[i] = i % 3;
        }
        int seed = 77 * 8 + 3;
        for (int i = 0; i < 60; i++) {
            int sister = seed % 3;
            seed = (seed * 167 + 71) % 30047;
            int sin = seed % 6;
            seed = (seed * 167 + 71) % 30047;
            for (int stone = 0; stone < 24; stone++) {
                if (where[stone] == sister && stone % 6 < sin) {
                    where[stone] = 6;
                    gravel++;
                    break;
                }
            }
        }
        check.due("storm(77, 60)", sins, gravel);
        for (int i = 0; i < 24; i++) {
            check.due("where STONE " + i + " is", x.stone(i, 2), where[i]);
        }
    }

    private static void undone(Check check) {
        VeilOfStones x = Check.convent(2);
        check.due("undo()", x.undo(), -1);
        x.vow(1, 0);
        x.later(2);
        x.pass(1, 0, 1);
        x.sin(1, 1);
        x.forgive(0);
        check.due("about(6)", x.about(6), 6);
        check.due("undo() of forgive", x.undo(), 5);
        check.due("GRAVEL", x.stone(0, 2), 6);
        check.due("undo() of sin", x.undo(), 4);
        check.due("hers", x.stone(0, 2), 1);
        check.due("undo() of pass", x.undo(), 3);
        check.due("hers", x.stone(0, 2), 0);
        check.due("whose", x.stone(0, 3), 0);
        check.due("undo() of a DAY", x.undo(), 2);
        check.due("DAY", x.about(3), 1);
        check.due("undo() of a DAY", x.undo(), 1);
        check.due("DAY", x.about(3), 0);
        check.due("undo() of vow", x.undo(), 0);
        check.due("STONES", x.about(1), 0);
        check.due("undo()", x.undo(), -1);
        check.due("SISTERS stay", x.about(0), 2);
        // The latest 30 alone, however many there were.
        x.later(99);
        x.vow(2, 1);
        check.due("about(6)", x.about(6), 30);
        for (int i = 29; i >= 0; i--) {
            check.due("undo()", x.undo(), i);
        }
        check.due("undo()", x.undo(), -1);
        check.due("DAY", x.about(3), 70);
        // A TEXT, SISTERS and what was TOLD are no STEPS.
        x.vow(3, 0);
        x.sister();
        Check.read(x, "weighs 9;");
        x.by(0);
        x.tell(0, 1, 1);
        check.due("undo()", x.undo(), 0);
        check.due("about(0)", x.about(0), 3);
        check.due("about(4)", x.about(4), 1);
        check.due("about(5)", x.about(5), 0);
        check.due("about(7)", x.about(7), 1);
    }
}
