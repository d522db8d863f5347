/** Promises 27 and 28: THE IMAGE, and all that BACK brings again. */
public final class ImageTest {
    public static void main(String[] args) {
        Check check = new Check();
        allIsBack(check);
        tapeAndFaultStay(check);
        stepsAreBack(check);
        textsAreBack(check);
        check.end();
    }

    private static int[] all(VeilOfStones x) {
        int[] all = new int[8 + 30 * 5 + 6 * 2 + 3];
        int n = 0;
        for (int i = 0; i < 8; i++) {
            all[n++] = x.about(i);
        }
        for (int i = 0; i < 150; i++) {
            all[n++] = x.stone(i / 5, i % 5);
        }
        for (int i = 0; i < 12; i++) {
            all[n++] = x.veil(i / 2, i % 2);
        }
        all[n++] = x.fits();
        all[n++] = x.next();
        all[n++] = x.spread();
        return all;
    }

    private static void same(Check check, int[] got, int[] want) {
        for (int i = 0; i < want.length; i++) {
            check.due("row " + i + " of all", got[i], want[i]);
        }
    }

    private static void allIsBack(Check check) {
        VeilOfStones x = Check.convent(3);
        Check.read(x, "weighs kind * 3 + age;");
        x.by(0);
        x.vow(1, 0);
        x.vow(2, 1);
        x.later(4);
        x.sin(1, 0);
        x.tell(1, 0, 1);
        int[] then = all(x);
        check.due("image(): DAY", x.image(), 4);
        same(check, all(x), then);
        x.sister();
        Check.read(x, "weighs 1;");
        x.by(1);
        x.forgive(0);
        x.pass(2, 1, 3);
        x.vow(5, 2);
        x.later(9);
        x.hush();
        x.tell(0, 3, 0);
        x.tell(1, 2, -1);
        check.due("back(): DAY", x.back(), 4);
        same(check, all(x), then);
        x.by(-1);
        x.later(1);
        check.due("it stays", x.back(), 4);
        same(check, all(x), then);
    }

    private static void tapeAndFaultStay(Check check) {
        VeilOfStones x = new VeilOfStones();
        Check.read(x, "wait 0;");
        Check.tape(x, "wait 3;");
        x.image();
        check.due("about(8)", x.about(8), 7);
        check.due("fault(0)", x.fault(0), 2);
        x.end(5);
        x.back();
        check.due("the tape is as now", x.about(8), 5);
        Check.read(x, "weighs sin;");
        x.back();
        check.due("the FAULT is as now", x.fault(0), 5);
        check.due("its place is as now", x.fault(1), 7);
        Check.tape(x, "wait 1;");
        x.back();
        check.due("text()", x.text(), 0);
        check.due("played(0)", x.played(0), -1);
        check.due("DAY", x.about(3), 1);
    }

    private static void stepsAreBack(Check check) {
        VeilOfStones x = Check.convent(1);
        x.vow(3, 0);
        x.later(2);
        x.image();
        for (int i = 0; i < 3; i++) {
            x.undo();
        }
        x.vow(5, 0);
        x.later(50);
        check.due("back()", x.back(), 2);
        check.due("about(6)", x.about(6), 3);
        check.due("undo()", x.undo(), 2);
        check.due("DAY", x.about(3), 1);
        check.due("undo()", x.undo(), 1);
        check.due("undo()", x.undo(), 0);
        check.due("STONES", x.about(1), 0);
        check.due("undo()", x.undo(), -1);
        x.back();
        check.due("KIND", x.stone(0, 0), 3);
        // All 30, with the oldest somewhere in the middle of them.
        x.later(40);
        x.image();
        x.later(17);
        for (int i = 0; i < 9; i++) {
            x.undo();
        }
        x.back();
        check.due("about(6)", x.about(6), 30);
        for (int i = 29; i >= 0; i--) {
            check.due("undo()", x.undo(), i);
            check.due("DAY", x.about(3), 12 + i);
        }
    }

    private static void textsAreBack(Check check) {
        VeilOfStones x = Check.convent(1);
        x.vow(0, 0);
        Check.read(x, "weighs 11;");
        x.image();
        check.due("text()", Check.read(x, "weighs 22;"), 1);
        x.by(1);
        x.back();
        check.due("about(4)", x.about(4), 1);
        check.due("about(5)", x.about(5), -1);
        check.due("by(1)", x.by(1), false);
        check.due("played(1)", x.played(1), -2);
        check.due("text()", Check.read(x, "goes"), -1);
        check.due("text()", Check.read(x, "weighs 33;"), 1);
        x.by(1);
        check.due("veil(0, 0)", x.veil(0, 0), 33);
        x.by(0);
        check.due("veil(0, 0)", x.veil(0, 0), 11);
        check.due("about(4)", x.about(4), 2);
    }
}
