/** What the project's tests share: it prints every answer that is not the one due. */
class Check {
    private int wrong = 0;
    private int asked = 0;

    void due(String call, long got, long want) {
        asked++;
        if (got != want) {
            wrong++;
            System.out.println(call + " answered " + got + ", due is " + want);
        }
    }

    void due(String call, boolean got, boolean want) {
        due(call, got ? 1 : 0, want ? 1 : 0);
    }

    /** Ends the test's program: exit code 1 if an answer was wrong, or none was asked for. */
    void end() {
        System.out.println(asked - wrong + " of " + asked + " answers are as due");
        if (wrong != 0 || asked == 0) {
            System.exit(1);
        }
    }

    /** The tape is this text alone. */
    static void tape(VeilOfStones x, String text) {
        x.end(0);
        int length = text.length();
        for (int at = 0; at < length; at += 20) {
            x.feed(four(text, at), four(text, at + 4), four(text, at + 8), four(text, at + 12), four(text, at + 16));
        }
        x.end(length);
    }

    private static int four(String text, int at) {
        int value = 0;
        for (int i = at; i < at + 4; i++) {
            value = value << 8 | (i < text.length() ? text.charAt(i) & 255 : 0);
        }
        return value;
    }

    /** What text() answers to it. */
    static int read(VeilOfStones x, String text) {
        tape(x, text);
        return x.text();
    }

    /** A convent of as many SISTERS. */
    static VeilOfStones convent(int sisters) {
        VeilOfStones x = new VeilOfStones();
        for (int i = 0; i < sisters; i++) {
            x.sister();
        }
        return x;
    }

    /** A text without a FAULT reads as a TEXT. */
    void good(String text) {
        VeilOfStones x = new VeilOfStones();
        due("text() of \"" + text + "\"", read(x, text), 0);
        due("fault(0) of \"" + text + "\"", x.fault(0), 0);
        due("fault(1) of \"" + text + "\"", x.fault(1), VeilOfStones.NONE);
    }

    /** A text has a FAULT at a place. */
    void bad(String text, int fault, int place) {
        VeilOfStones x = new VeilOfStones();
        due("text() of \"" + text + "\"", read(x, text), VeilOfStones.NONE);
        due("fault(0) of \"" + text + "\"", x.fault(0), fault);
        due("fault(1) of \"" + text + "\"", x.fault(1), place);
    }

    /** What a STONE of a KIND, sewn on DAY 0 into a SISTER's veil, weighs by a SUM. */
    void weighs(String sum, int kind, int sister, int days, int want) {
        VeilOfStones x = convent(6);
        due("text() of \"weighs " + sum + ";\"", read(x, "weighs " + sum + ";"), 0);
        x.by(0);
        x.vow(kind, sister);
        if (days > 0) {
            x.later(days);
        }
        due("the weight by \"" + sum + "\"", x.stone(0, 4), want);
    }

    /** Whether a SIN takes the STONE (of KIND 2, the 0th, of SISTER 3, 4 DAYS old) out by an EITHER. */
    void goes(String either, int sin, boolean want) {
        VeilOfStones x = convent(6);
        due("text() of \"goes " + either + ";\"", read(x, "goes " + either + ";"), 0);
        x.by(0);
        x.vow(2, 3);
        x.later(4);
        due("sin(" + sin + ", 3) by \"" + either + "\"", x.sin(sin, 3), want ? 0 : VeilOfStones.NONE);
    }
}
