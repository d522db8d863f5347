/** Promises 8 to 17, sentence by sentence, at their bounds. */
final class DeedPromises {
    private static final int[] FAR = {-2, Integer.MIN_VALUE, Integer.MAX_VALUE};

    static void all(Sentences s) {
        vow(s);
        vowForOthers(s);
        sin(s);
        sinForOthers(s);
        pass(s);
        passForOthers(s);
        forgive(s);
        forgiveForOthers(s);
        later(s);
        laterForOthers(s);
        playedAll(s);
        playedElse(s);
        playedForOthers(s);
        storm(s);
        stormForOthers(s);
        undo(s);
        undoOfNone(s);
        stone(s);
        stoneForOthers(s);
        veil(s);
        veilForOthers(s);
    }

    private static void vow(Sentences s) {
        s.of("Promise 8", "A VOW: the STONE.");
        VeilOfStones x = Check.convent(6);
        for (int i = 0; i < 30; i++) {
            s.due("vow(" + i % 6 + ", " + i / 5 + ")", x.vow(i % 6, i / 5), i);
            s.due("about(1)", x.about(1), i + 1);
        }
        for (int i = 0; i < 30; i++) {
            s.due("stone(" + i + ", 0)", x.stone(i, 0), i % 6);
            s.due("stone(" + i + ", 2)", x.stone(i, 2), i / 5);
        }
        VeilOfStones y = Sentences.made(Convents::some);
        s.due("vow(0, 0) behind one taken back", y.vow(0, 0), 6);
        y.undo();
        s.due("vow(4, 2) has its number again", y.vow(4, 2), 6);
        s.due("its KIND", y.stone(6, 0), 4);
    }

    private static void vowForOthers(Sentences s) {
        s.of("Promise 8", "NONE for others, if her veil has 8, or there are 30 STONES.");
        s.leaves("vow(-1, 0)", Convents::some, x -> x.vow(-1, 0), -1);
        s.leaves("vow(6, 0)", Convents::some, x -> x.vow(6, 0), -1);
        s.leaves("vow(0, -1)", Convents::some, x -> x.vow(0, -1), -1);
        s.leaves("vow(0, 3) with 3 SISTERS", Convents::some, x -> x.vow(0, 3), -1);
        s.leaves("vow(0, 6)", Convents::some, x -> x.vow(0, 6), -1);
        s.leaves("vow(0, 0) without SISTERS", Convents::none, x -> x.vow(0, 0), -1);
        for (int far : FAR) {
            s.leaves("vow(" + far + ", 0)", Convents::some, x -> x.vow(far, 0), -1);
            s.leaves("vow(0, " + far + ")", Convents::some, x -> x.vow(0, far), -1);
        }
        s.due("vow(0, 0) with 7", Sentences.made(x -> Convents.room(x, 7)).vow(0, 0), 9);
        s.leaves("vow(0, 0) with 8", x -> Convents.room(x, 8), x -> x.vow(0, 0), -1);
        s.leaves("vow(0, 5) with 30", Convents::full, x -> x.vow(0, 5), -1);
        VeilOfStones x = Sentences.made(Convents::full);
        for (int i = 0; i < 30; i++) {
            x.undo();
        }
        s.due("vow(0, 5) with 30 yet", x.vow(0, 5), -1);
        VeilOfStones y = Check.convent(4);
        for (int i = 0; i < 29; i++) {
            y.vow(0, i / 8);
        }
        s.due("vow(0, 3) with 29", y.vow(0, 3), 29);
        s.due("vow(0, 3) with 30", y.vow(0, 3), -1);
        y.undo();
        s.due("vow(0, 3) with 29 again", y.vow(0, 3), 29);
    }

    private static void sin(Sentences s) {
        s.of("Promise 9", "A SIN: the STONE that is GRAVEL then.");
        VeilOfStones x = Check.convent(2);
        for (int i = 0; i < 6; i++) {
            x.vow(5 - i, 1);
        }
        for (int sin = 0; sin < 6; sin++) {
            s.due("sin(" + sin + ", 1)", x.sin(sin, 1), 5 - sin);
            s.due("stone(.., 2)", x.stone(5 - sin, 2), 6);
            s.due("stone(.., 3)", x.stone(5 - sin, 3), 1);
            s.due("about(2)", x.about(2), sin + 1);
            s.due("about(6)", x.about(6), sin + 7);
        }
        VeilOfStones y = Sentences.made(Convents::full);
        y.by(1);
        s.due("sin(3, 3): the highest STONES", y.sin(3, 3), 26);
        y.sin(3, 3);
        y.sin(3, 3);
        s.due("sin(3, 3): STONE 29", y.sin(3, 3), 29);
        s.due("sin(3, 3): none is left", y.sin(3, 3), -1);
    }

    private static void sinForOthers(Sentences s) {
        s.of("Promise 9", "NONE, if it can't be, and for others.");
        s.leaves("sin(0, 0): it can't be", Convents::some, x -> x.sin(0, 0), -1);
        s.leaves("sin(0, 4) of an empty veil", Convents::full, x -> x.sin(0, 4), -1);
        s.leaves("sin(-1, 0)", Convents::some, x -> x.sin(-1, 0), -1);
        s.leaves("sin(6, 0)", Convents::some, x -> x.sin(6, 0), -1);
        s.leaves("sin(5, -1)", Convents::some, x -> x.sin(5, -1), -1);
        s.leaves("sin(5, 3) with 3 SISTERS", Convents::some, x -> x.sin(5, 3), -1);
        s.leaves("sin(5, 6): GRAVEL is in no veil", Convents::full, x -> x.sin(5, 6), -1);
        s.leaves("sin(0, 0) without SISTERS", Convents::none, x -> x.sin(0, 0), -1);
        for (int far : FAR) {
            s.leaves("sin(" + far + ", 0)", Convents::some, x -> x.sin(far, 0), -1);
            s.leaves("sin(5, " + far + ")", Convents::some, x -> x.sin(5, far), -1);
        }
    }

    private static void pass(Sentences s) {
        s.of("Promise 10", "PASSED ON to another SISTER: the STONE.");
        for (int kind = 0; kind < 6; kind++) {
            VeilOfStones x = Check.convent(6);
            x.vow((kind + 1) % 6, 0);
            x.vow(kind, 0);
            x.vow(kind, 0);
            s.due("pass(" + kind + ", 0, 5)", x.pass(kind, 0, 5), 1);
            s.due("stone(1, 2)", x.stone(1, 2), 5);
            s.due("stone(1, 3)", x.stone(1, 3), 5);
            s.due("about(6)", x.about(6), 4);
            s.due("pass(" + kind + ", 5, 4)", x.pass(kind, 5, 4), 1);
            s.due("veil(4, 1)", x.veil(4, 1), 2);
        }
        VeilOfStones x = Sentences.made(y -> Convents.room(y, 7));
        s.due("pass(2, 1, 0) with room for one", x.pass(2, 1, 0), 1);
        VeilOfStones y = Sentences.made(z -> Convents.room(z, 8));
        s.due("pass(1, 0, 1) out of a full veil", y.pass(1, 0, 1), 2);
        s.due("pass(2, 1, 0) has room then", y.pass(2, 1, 0), 1);
    }

    private static void passForOthers(Sentences s) {
        s.of("Promise 10", "NONE, if there is none such or no room, and for others.");
        s.leaves("pass(0, 0, 1): none such", Convents::some, x -> x.pass(0, 0, 1), -1);
        s.leaves("pass(2, 0, 1): it is GRAVEL", Convents::some, x -> x.pass(2, 0, 1), -1);
        s.leaves("pass(0, 4, 5) of an empty veil", Convents::full, x -> x.pass(0, 4, 5), -1);
        s.leaves("pass(2, 1, 0) without room", x -> Convents.room(x, 8), x -> x.pass(2, 1, 0), -1);
        s.leaves("pass(1, 0, 0)", Convents::some, x -> x.pass(1, 0, 0), -1);
        s.leaves("pass(1, 0, 3) with 3 SISTERS", Convents::some, x -> x.pass(1, 0, 3), -1);
        s.leaves("pass(1, 3, 0) with 3 SISTERS", Convents::some, x -> x.pass(1, 3, 0), -1);
        s.leaves("pass(1, 0, -1)", Convents::some, x -> x.pass(1, 0, -1), -1);
        s.leaves("pass(1, -1, 0)", Convents::some, x -> x.pass(1, -1, 0), -1);
        s.leaves("pass(-1, 0, 1)", Convents::some, x -> x.pass(-1, 0, 1), -1);
        s.leaves("pass(6, 0, 1)", Convents::some, x -> x.pass(6, 0, 1), -1);
        s.leaves("pass(3, 3, 6): GRAVEL is no veil", Convents::full, x -> x.pass(3, 3, 6), -1);
        s.leaves("pass(3, 6, 4): GRAVEL is no veil", Convents::full, x -> x.pass(3, 6, 4), -1);
        s.leaves("pass(0, 0, 1) without SISTERS", Convents::none, x -> x.pass(0, 0, 1), -1);
        for (int far : FAR) {
            s.leaves("pass(" + far + ", 0, 1)", Convents::some, x -> x.pass(far, 0, 1), -1);
            s.leaves("pass(1, " + far + ", 1)", Convents::some, x -> x.pass(1, far, 1), -1);
            s.leaves("pass(1, 0, " + far + ")", Convents::some, x -> x.pass(1, 0, far), -1);
        }
    }

    private static void forgive(Sentences s) {
        s.of("Promise 11", "FORGIVEN: whose it is again.");
        for (int sister = 0; sister < 6; sister++) {
            VeilOfStones x = Check.convent(6);
            x.vow(3, (sister + 1) % 6);
            x.pass(3, (sister + 1) % 6, sister);
            x.sin(3, sister);
            s.due("forgive(0)", x.forgive(0), sister);
            s.due("stone(0, 2)", x.stone(0, 2), sister);
            s.due("stone(0, 3)", x.stone(0, 3), sister);
            s.due("about(2)", x.about(2), 0);
            s.due("about(6)", x.about(6), 4);
        }
        VeilOfStones x = Sentences.made(Convents::full);
        s.due("forgive(25)", x.forgive(25), 3);
        x.by(-1);
        x.sin(3, 3);
        s.due("forgive(25) again", x.forgive(25), 3);
        VeilOfStones y = Check.convent(4);
        for (int i = 0; i < 30; i++) {
            y.vow(i == 29 ? 5 : 0, i / 8);
        }
        y.sin(5, 3);
        s.due("forgive(29)", y.forgive(29), 3);
    }

    private static void forgiveForOthers(Sentences s) {
        s.of("Promise 11", "NONE, if it can't be, and for others.");
        s.leaves("forgive(0): it is in a veil", Convents::some, x -> x.forgive(0), -1);
        s.leaves("forgive(0): no room", Convents::full, x -> x.forgive(0), -1);
        s.leaves("forgive(-1)", Convents::some, x -> x.forgive(-1), -1);
        s.leaves("forgive(6) with 6 STONES", Convents::some, x -> x.forgive(6), -1);
        s.leaves("forgive(30) with 30", Convents::full, x -> x.forgive(30), -1);
        s.leaves("forgive(31) with 30", Convents::full, x -> x.forgive(31), -1);
        s.leaves("forgive(0) without STONES", Convents::none, x -> x.forgive(0), -1);
        for (int far : FAR) {
            s.leaves("forgive(" + far + ")", Convents::some, x -> x.forgive(far), -1);
        }
        // One whose VOW was taken back is none, whatever it was.
        s.leaves("forgive(0) of one taken back", x -> {
            Convents.sisters(x, 1);
            x.vow(1, 0);
            x.sin(1, 0);
            x.undo();
            x.undo();
        }, x -> x.forgive(0), -1);
    }

    private static void later(Sentences s) {
        s.of("Promise 12", "DAYS go by (1 .. 99): DAY.");
        s.due("later(1)", new VeilOfStones().later(1), 1);
        s.due("later(2)", new VeilOfStones().later(2), 2);
        s.due("later(98)", new VeilOfStones().later(98), 98);
        s.due("later(99)", new VeilOfStones().later(99), 99);
        s.due("later(0)", new VeilOfStones().later(0), -1);
        s.due("later(100)", new VeilOfStones().later(100), -1);
        VeilOfStones x = Sentences.made(Convents::some);
        s.due("later(99) on DAY 3", x.later(99), 102);
        s.due("about(3)", x.about(3), 102);
        s.due("undo()", x.undo(), 29);
        s.due("about(3)", x.about(3), 101);
    }

    private static void laterForOthers(Sentences s) {
        s.of("Promise 12", "NONE for others, or beyond 999.");
        for (int days : new int[] {0, -1, 100, 101, -2, Integer.MIN_VALUE, Integer.MAX_VALUE}) {
            s.leaves("later(" + days + ")", Convents::some, x -> x.later(days), -1);
        }
        s.leaves("later(1) on DAY 999", Convents::full, x -> x.later(1), -1);
        s.leaves("later(99) on DAY 901", x -> Convents.days(x, 901), x -> x.later(99), -1);
        s.due("later(98) on DAY 901", Sentences.made(x -> Convents.days(x, 901)).later(98), 999);
        s.due("later(99) on DAY 900", Sentences.made(x -> Convents.days(x, 900)).later(99), 999);
        VeilOfStones x = Sentences.made(Convents::full);
        x.undo();
        s.due("later(1) on DAY 998", x.later(1), 999);
    }

    private static void playedAll(Sentences s) {
        s.of("Promise 13", "PLAYED by a TEXT: NONE: all is done;");
        VeilOfStones x = Sentences.made(Convents::some);
        s.due("played(1)", x.played(1), -1);
        s.due("about(1)", x.about(1), 7);
        s.due("about(3)", x.about(3), 5);
        s.due("played(1) again", x.played(1), -1);
        s.due("about(1)", x.about(1), 8);
        s.leaves("played(0): laws alone", Convents::some, y -> y.played(0), -1);
        VeilOfStones y = new VeilOfStones();
        for (int i = 0; i < 4; i++) {
            Check.read(y, "wait " + (1 << i) + ";");
        }
        for (int i = 0; i < 4; i++) {
            s.due("played(" + i + ") of 4", y.played(i), -1);
            s.due("about(3)", y.about(3), (2 << i) - 1);
        }
    }

    private static void playedElse(Sentences s) {
        s.of("Promise 13", "else the number of the CLAUSE that can't be.");
        VeilOfStones x = Sentences.made(Convents::full);
        s.due("played(3) on DAY 999: weighs, sin, wait", x.played(3), 1);
        x.by(-1);
        s.due("played(3) by none", x.played(3), 1);
        VeilOfStones y = Check.convent(1);
        Check.read(y, "sin 1 of 0; weighs 1; vow 1 of 0;");
        s.due("played(0): the first", y.played(0), 0);
        s.due("about(1)", y.about(1), 0);
        y.vow(1, 0);
        s.due("played(0): none", y.played(0), -1);
        Check.read(y, "weighs 1; vow 1 of 0; forgive 5;");
        s.due("played(1): the last", y.played(1), 2);
        s.leaves("played(0): the first", z -> {
            Convents.sisters(z, 1);
            Check.read(z, "sin 1 of 0; vow 1 of 0;");
        }, z -> z.played(0), 0);
    }

    private static void playedForOthers(Sentences s) {
        s.of("Promise 13", "-2 for others.");
        for (int text : new int[] {-1, -2, 2, 3, 4, Integer.MIN_VALUE, Integer.MAX_VALUE}) {
            s.leaves("played(" + text + ") with 2", Convents::some, x -> x.played(text), -2);
        }
        s.leaves("played(4) with 4", Convents::full, x -> x.played(4), -2);
        s.leaves("played(0) without TEXTS", Convents::none, x -> x.played(0), -2);
        // What a text with a FAULT had ahead of it is not PLAYED.
        s.leaves("played(0) behind a text with a FAULT", x -> Check.read(x, "wait 1; !"), x -> x.played(0), -2);
        s.leaves("played(1) of one that BACK took away", x -> {
            Convents.some(x);
            x.back();
        }, x -> x.played(1), -2);
    }

    private static void storm(Sentences s) {
        s.of("Promise 14", "A STORM: how many SINS.");
        VeilOfStones x = Check.convent(1);
        s.due("storm(0, 60) of an empty veil", x.storm(0, 60), 0);
        s.due("about(6)", x.about(6), 1);
        Check.read(x, "goes 1 = 1;");
        x.by(0);
        for (int n = 1; n <= 8; n++) {
            x.vow(0, 0);
        }
        s.due("storm(0, 1)", x.storm(0, 1), 1);
        s.due("storm(9999, 5)", x.storm(9999, 5), 5);
        s.due("storm(0, 60)", x.storm(0, 60), 2);
        s.due("about(2)", x.about(2), 8);
        s.due("about(6)", x.about(6), 12);
    }

    private static void stormForOthers(Sentences s) {
        s.of("Promise 14", "NONE for others, and without SISTERS.");
        s.leaves("storm(0, 1) without SISTERS", Convents::none, x -> x.storm(0, 1), -1);
        s.due("storm(0, 1) with one", Check.convent(1).storm(0, 1), 0);
        s.due("storm(9999, 60) with one", Check.convent(1).storm(9999, 60), 0);
        s.leaves("storm(-1, 1)", Convents::some, x -> x.storm(-1, 1), -1);
        s.leaves("storm(10000, 1)", Convents::some, x -> x.storm(10000, 1), -1);
        s.leaves("storm(0, 0)", Convents::some, x -> x.storm(0, 0), -1);
        s.leaves("storm(0, 61)", Convents::full, x -> x.storm(0, 61), -1);
        for (int far : FAR) {
            s.leaves("storm(" + far + ", 1)", Convents::some, x -> x.storm(far, 1), -1);
            s.leaves("storm(0, " + far + ")", Convents::some, x -> x.storm(0, far), -1);
        }
    }

    private static void undo(Sentences s) {
        s.of("Promise 15", "The latest STEP is taken back: how many can be yet.");
        VeilOfStones x = Sentences.made(Convents::some);
        // VOW, VOW, VOW, DAY (THE IMAGE), VOW, VOW, VOW, SIN, passing on, DAY, DAY.
        int[] stones = {6, 6, 6, 6, 5, 4, 3, 3, 2, 1, 0};
        int[] days = {2, 1, 1, 1, 1, 1, 1, 0, 0, 0, 0};
        int[] gravel = {1, 1, 1, 0, 0, 0, 0, 0, 0, 0, 0};
        for (int i = 0; i < 11; i++) {
            s.due("undo() number " + i, x.undo(), 10 - i);
            s.due("about(1)", x.about(1), stones[i]);
            s.due("about(2)", x.about(2), gravel[i]);
            s.due("about(3)", x.about(3), days[i]);
            s.due("about(6)", x.about(6), 10 - i);
        }
        s.due("about(0): SISTERS stay", x.about(0), 3);
        s.due("about(4): TEXTS stay", x.about(4), 2);
        s.due("about(5): THE TEXT stays", x.about(5), 0);
        s.due("about(7): what was TOLD stays", x.about(7), 2);
        s.due("about(8): the tape stays", x.about(8), 7);
        s.due("fault(0) stays", x.fault(0), 2);
    }

    private static void undoOfNone(Sentences s) {
        s.of("Promise 15", "NONE: there is none.");
        s.leaves("undo() of a new one", Convents::none, x -> x.undo(), -1);
        s.leaves("undo() without STEPS", x -> {
            Convents.sisters(x, 6);
            Check.read(x, "weighs 1;");
            x.by(0);
            x.tell(0, 1, 0);
        }, x -> x.undo(), -1);
        s.leaves("undo() behind the 30th", x -> {
            Convents.full(x);
            for (int i = 0; i < 30; i++) {
                x.undo();
            }
        }, x -> x.undo(), -1);
        // Refused calls are no STEPS.
        VeilOfStones x = Check.convent(1);
        x.vow(6, 0);
        x.sin(0, 0);
        x.pass(0, 0, 0);
        x.forgive(0);
        x.later(0);
        x.storm(0, 0);
        s.due("undo() behind refused calls", x.undo(), -1);
    }

    private static void stone(Sentences s) {
        s.of("Promise 16", "Of a STONE: 0 KIND, 1 the DAY on which it was sewn, 2 where it is (a SISTER, 6),"
            + " 3 whose it is, or was last, 4 what it WEIGHS.");
        VeilOfStones x = Sentences.made(Convents::some);
        // By "weighs kind * 2 + age" on DAY 3.
        int[][] want = {
            {1, 0, 0, 0, 5}, {2, 0, 6, 0, 7}, {4, 0, 2, 2, 11}, {2, 1, 2, 2, 6}, {3, 1, 1, 1, 8}, {1, 1, 1, 1, 4}
        };
        for (int stone = 0; stone < 6; stone++) {
            for (int what = 0; what < 5; what++) {
                s.due("stone(" + stone + ", " + what + ")", x.stone(stone, what), want[stone][what]);
            }
        }
        VeilOfStones y = Sentences.made(Convents::full);
        s.due("stone(29, 0)", y.stone(29, 0), 3);
        s.due("stone(29, 2)", y.stone(29, 2), 3);
        s.due("stone(29, 4) by 99 - age / 20", y.stone(29, 4), 50);
        for (int what = 0; what < 5; what++) {
            int asked = what;
            s.leaves("stone(1, " + what + ")", Convents::some, z -> z.stone(1, asked), want[1][what]);
        }
    }

    private static void stoneForOthers(Sentences s) {
        s.of("Promise 16", "NONE for others.");
        for (int what : new int[] {-1, 5, -2, Integer.MIN_VALUE, Integer.MAX_VALUE}) {
            s.leaves("stone(0, " + what + ")", Convents::some, x -> x.stone(0, what), -1);
        }
        for (int what = 0; what < 5; what++) {
            int asked = what;
            s.leaves("stone(-1, " + what + ")", Convents::some, x -> x.stone(-1, asked), -1);
            s.leaves("stone(6, " + what + ") with 6", Convents::some, x -> x.stone(6, asked), -1);
            s.leaves("stone(30, " + what + ") with 30", Convents::full, x -> x.stone(30, asked), -1);
            s.leaves("stone(31, " + what + ") with 30", Convents::full, x -> x.stone(31, asked), -1);
            s.leaves("stone(0, " + what + ") without STONES", Convents::none, x -> x.stone(0, asked), -1);
            for (int far : FAR) {
                s.due("stone(" + far + ", " + what + ")", Sentences.made(Convents::full).stone(far, what), -1);
            }
        }
        VeilOfStones x = Check.convent(1);
        x.vow(3, 0);
        x.undo();
        s.due("stone(0, 0) of one taken back", x.stone(0, 0), -1);
    }

    private static void veil(Sentences s) {
        s.of("Promise 17", "Of a SISTER: 0 the weight of her veil, 1 its STONES (bits).");
        VeilOfStones x = Sentences.made(Convents::some);
        int[][] want = {{5, 1}, {12, 16 + 32}, {17, 4 + 8}};
        for (int sister = 0; sister < 3; sister++) {
            s.due("veil(" + sister + ", 0)", x.veil(sister, 0), want[sister][0]);
            s.due("veil(" + sister + ", 1)", x.veil(sister, 1), want[sister][1]);
        }
        VeilOfStones y = Sentences.made(Convents::full);
        int[] bits = {0x1FE, 0x1FE00, 0x1FE0000, 0x3C000000, 0, 0};
        int[] weights = {400, 400, 400, 200, 0, 0};
        for (int sister = 0; sister < 6; sister++) {
            s.due("veil(" + sister + ", 0) of the full one", y.veil(sister, 0), weights[sister]);
            s.due("veil(" + sister + ", 1) of the full one", y.veil(sister, 1), bits[sister]);
        }
        s.leaves("veil(1, 0)", Convents::some, z -> z.veil(1, 0), 12);
        s.leaves("veil(1, 1)", Convents::some, z -> z.veil(1, 1), 48);
    }

    private static void veilForOthers(Sentences s) {
        s.of("Promise 17", "NONE for others.");
        for (int what : new int[] {-1, 2, -2, Integer.MIN_VALUE, Integer.MAX_VALUE}) {
            s.leaves("veil(0, " + what + ")", Convents::some, x -> x.veil(0, what), -1);
        }
        for (int what = 0; what < 2; what++) {
            int asked = what;
            s.leaves("veil(-1, " + what + ")", Convents::some, x -> x.veil(-1, asked), -1);
            s.leaves("veil(3, " + what + ") with 3", Convents::some, x -> x.veil(3, asked), -1);
            s.leaves("veil(6, " + what + ") with 6: GRAVEL is no veil", Convents::full, x -> x.veil(6, asked), -1);
            s.leaves("veil(0, " + what + ") without SISTERS", Convents::none, x -> x.veil(0, asked), -1);
            for (int far : FAR) {
                s.due("veil(" + far + ", " + what + ")", Sentences.made(Convents::full).veil(far, what), -1);
            }
        }
    }
}
