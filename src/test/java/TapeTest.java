/** Promises 3 to 7: the tape, TEXTS, their FAULTS and THE TEXT. */
public final class TapeTest {
    private static final int BLANKS = 0x20202020;

    public static void main(String[] args) {
        Check check = new Check();
        feeding(check);
        ending(check);
        texts(check);
        faultOfLatest(check);
        ruling(check);
        check.end();
    }

    private static int blanks(VeilOfStones x) {
        return x.feed(BLANKS, BLANKS, BLANKS, BLANKS, BLANKS);
    }

    private static void feeding(Check check) {
        VeilOfStones x = new VeilOfStones();
        for (int i = 1; i <= 15; i++) {
            check.due("feed " + i, blanks(x), 20 * i);
        }
        check.due("feed beyond 300", blanks(x), -1);
        check.due("about(8)", x.about(8), 300);
        x.end(281);
        check.due("feed to 301", blanks(x), -1);
        check.due("about(8)", x.about(8), 281);
        x.end(280);
        check.due("feed to 300", blanks(x), 300);
        // The highest byte of a comes first: "wait" is one number.
        x.end(0);
        check.due("feed", x.feed(0x77616974, 0x20313B76, 0x6F772030, 0x206F6620, 0x303BFFFF), 20);
        x.end(18);
        check.due("text()", x.text(), 0);
        x.sister();
        check.due("played(0)", x.played(0), -1);
        check.due("DAY", x.about(3), 1);
        check.due("STONES", x.about(1), 1);
    }

    private static void ending(Check check) {
        VeilOfStones x = new VeilOfStones();
        check.due("end(0)", x.end(0), 0);
        check.due("end(1)", x.end(1), -1);
        check.due("end(-1)", x.end(-1), -1);
        blanks(x);
        check.due("end(21)", x.end(21), -1);
        check.due("about(8)", x.about(8), 20);
        check.due("end(-5)", x.end(-5), -1);
        check.due("end(MIN)", x.end(Integer.MIN_VALUE), -1);
        check.due("end(MAX)", x.end(Integer.MAX_VALUE), -1);
        check.due("about(8)", x.about(8), 20);
        check.due("end(20)", x.end(20), 20);
        check.due("end(3)", x.end(3), 3);
        check.due("about(8)", x.about(8), 3);
        check.due("feed behind 3", blanks(x), 23);
        // What was cut off is gone, not only hidden.
        x.end(0);
        Check.tape(x, "wait 1;");
        x.end(2);
        x.feed(0x69742034, BLANKS, BLANKS, 0x3B000000, 0);
        x.end(15);
        check.due("text()", x.text(), 0);
        check.due("played(0)", x.played(0), -1);
        check.due("DAY", x.about(3), 4);
    }

    private static void texts(Check check) {
        VeilOfStones x = new VeilOfStones();
        check.due("text() of nothing", x.text(), 0);
        check.due("about(4)", x.about(4), 1);
        check.due("text() with a FAULT", Check.read(x, "no"), -1);
        check.due("the tape is empty behind a FAULT", x.about(8), 0);
        check.due("about(4)", x.about(4), 1);
        check.due("text()", Check.read(x, "wait 5;"), 1);
        check.due("the tape is empty behind a TEXT", x.about(8), 0);
        check.due("text()", Check.read(x, " \n "), 2);
        check.due("text()", Check.read(x, "weighs 7;"), 3);
        Check.tape(x, "wait 0;");
        check.due("text() with 4", x.text(), -1);
        check.due("the tape stays", x.about(8), 7);
        check.due("that was not read", x.fault(0), 0);
        check.due("about(4)", x.about(4), 4);
        check.due("played(1)", x.played(1), -1);
        check.due("DAY", x.about(3), 5);
    }

    private static void faultOfLatest(Check check) {
        VeilOfStones x = new VeilOfStones();
        check.due("fault(0) ahead of any", x.fault(0), -1);
        check.due("fault(1) ahead of any", x.fault(1), -1);
        Check.read(x, "wait 1; wait 100;");
        check.due("fault(0)", x.fault(0), 2);
        check.due("fault(1)", x.fault(1), 13);
        check.due("fault(2)", x.fault(2), -1);
        check.due("fault(-1)", x.fault(-1), -1);
        x.back();
        check.due("fault(0) behind back", x.fault(0), 2);
        Check.read(x, "wait 1;");
        check.due("fault(0)", x.fault(0), 0);
        check.due("fault(1)", x.fault(1), -1);
        check.due("fault(2)", x.fault(2), -1);
    }

    private static void ruling(Check check) {
        VeilOfStones x = Check.convent(1);
        x.vow(3, 0);
        check.due("about(5)", x.about(5), -1);
        check.due("by(0)", x.by(0), false);
        check.due("by(-1)", x.by(-1), true);
        check.due("by(-2)", x.by(-2), false);
        Check.read(x, "weighs 40;");
        Check.read(x, "weighs 50;");
        check.due("veil(0, 0)", x.veil(0, 0), 4);
        check.due("by(1)", x.by(1), true);
        check.due("about(5)", x.about(5), 1);
        check.due("veil(0, 0)", x.veil(0, 0), 50);
        check.due("by(2)", x.by(2), false);
        check.due("by(MAX)", x.by(Integer.MAX_VALUE), false);
        check.due("about(5)", x.about(5), 1);
        check.due("by(0)", x.by(0), true);
        check.due("veil(0, 0)", x.veil(0, 0), 40);
        check.due("by(-1)", x.by(-1), true);
        check.due("about(5)", x.about(5), -1);
        check.due("veil(0, 0)", x.veil(0, 0), 4);
    }
}
