/** Promises 1 to 7, sentence by sentence, at their bounds. */
final class TapePromises {
    private static final int BLANKS = 0x20202020;

    static void all(Sentences s) {
        newOne(s);
        firstImage(s);
        sister(s);
        sevenSisters(s);
        feed(s);
        feedBeyond(s);
        end(s);
        endBeyond(s);
        text(s);
        textWithFault(s);
        textWithFour(s);
        fault(s);
        faultForOthers(s);
        by(s);
        byForOthers(s);
    }

    private static void newOne(Sentences s) {
        s.of("Promise 1", "No SISTERS, no STONES;");
        VeilOfStones x = new VeilOfStones();
        int[] about = {0, 0, 0, 0, 0, -1, 0, 0, 0};
        for (int i = 0; i < 9; i++) {
            s.due("about(" + i + ")", x.about(i), about[i]);
        }
        s.due("veil(0, 0)", x.veil(0, 0), -1);
        s.due("stone(0, 0)", x.stone(0, 0), -1);
        s.due("undo()", x.undo(), -1);
        s.due("forgive(0)", x.forgive(0), -1);
        s.due("hush()", x.hush(), 0);
        s.due("played(0)", x.played(0), -2);
        s.due("by(0)", x.by(0), false);
        // One object has nothing of another one.
        VeilOfStones full = Sentences.made(Convents::full);
        VeilOfStones beside = new VeilOfStones();
        for (int i = 0; i < 9; i++) {
            s.due("about(" + i + ") beside a full one", beside.about(i), about[i]);
        }
        s.due("about(1) of the full one", full.about(1), 30);
    }

    private static void firstImage(Sentences s) {
        s.of("Promise 1", "THE IMAGE is this.");
        s.leaves("back() of a new one", Convents::none, x -> x.back(), 0);
        s.same("back() behind much", x -> {
            Convents.sisters(x, 6);
            Check.read(x, "weighs 3; vow 1 of 1; wait 50;");
            x.by(0);
            x.played(0);
            x.storm(3, 3);
            x.tell(0, 1, -1);
            x.back();
        }, Convents::none, Sight.CONVENT, Sight.STEPS, Sight.IMAGE, Sight.LAWS);
        s.same("back() behind all but TEXTS", x -> {
            Convents.sisters(x, 6);
            Convents.vows(x, 8, 4, 5);
            x.later(40);
            x.sin(4, 5);
            x.storm(3, 3);
            x.tell(0, 1, -1);
            x.back();
        }, Convents::none, Sight.values());
    }

    private static void sister(Sentences s) {
        s.of("Promise 2", "A SISTER: her number.");
        VeilOfStones x = new VeilOfStones();
        for (int i = 0; i < 6; i++) {
            s.due("sister() with " + i, x.sister(), i);
            s.due("about(0)", x.about(0), i + 1);
            s.due("veil(" + i + ", 0): an empty one", x.veil(i, 0), 0);
            s.due("veil(" + i + ", 1): an empty one", x.veil(i, 1), 0);
        }
        s.due("about(6): no STEP", x.about(6), 0);
    }

    private static void sevenSisters(Sentences s) {
        s.of("Promise 2", "NONE, if there are 6.");
        VeilOfStones x = Check.convent(5);
        s.due("sister() with 5", x.sister(), 5);
        s.due("sister() with 6", x.sister(), -1);
        s.leaves("sister() with 6", Convents::full, y -> y.sister(), -1);
        s.leaves("sister() with 6, twice", Convents::full, y -> y.sister() + y.sister(), -2);
    }

    private static void feed(Sentences s) {
        s.of("Promise 3", "Twenty bytes come behind the tape, the highest of a first: how many it has.");
        VeilOfStones x = new VeilOfStones();
        for (int i = 1; i <= 15; i++) {
            s.due("feed number " + i, x.feed(BLANKS, BLANKS, BLANKS, BLANKS, BLANKS), 20 * i);
            s.due("about(8)", x.about(8), 20 * i);
        }
        // "wait 12;wait 3;wait4" and ";wait 5;": each byte at its place.
        VeilOfStones y = new VeilOfStones();
        s.due("feed", y.feed(0x77616974, 0x2031323B, 0x77616974, 0x20333B77, 0x61697434), 20);
        s.due("feed behind it", y.feed(0x3B776169, 0x74203500 | ';', BLANKS, BLANKS, BLANKS), 40);
        s.due("text()", y.text(), 0);
        s.due("played(0)", y.played(0), -1);
        s.due("DAY", y.about(3), 24);
        // Each of the twenty places, with bytes above 127 too.
        for (int place = 0; place < 20; place++) {
            for (int odd : new int[] {0, 127, 128, 255}) {
                int[] words = {BLANKS, BLANKS, BLANKS, BLANKS, BLANKS};
                int shift = 24 - place % 4 * 8;
                words[place / 4] = BLANKS & ~(255 << shift) | odd << shift;
                VeilOfStones z = new VeilOfStones();
                z.feed(words[0], words[1], words[2], words[3], words[4]);
                s.due("text() with " + odd + " at " + place, z.text(), -1);
                s.due("fault(1) with " + odd + " at " + place, z.fault(1), place);
            }
        }
        // Behind a tape that was cut.
        VeilOfStones z = new VeilOfStones();
        Check.tape(z, "wait 1!");
        z.end(6);
        s.due("feed behind 6", z.feed(0x3B202020, BLANKS, BLANKS, BLANKS, BLANKS), 26);
        s.due("text()", z.text(), 0);
    }

    private static void feedBeyond(Sentences s) {
        s.of("Promise 3", "NONE, and none come, if there would be more than 300.");
        for (int length : new int[] {279, 280, 281, 299, 300}) {
            VeilOfStones x = new VeilOfStones();
            Convents.tape(x, "", length);
            int want = length <= 280 ? length + 20 : -1;
            s.due("feed behind " + length, x.feed(BLANKS, BLANKS, BLANKS, BLANKS, BLANKS), want);
            s.due("about(8)", x.about(8), length <= 280 ? length + 20 : length);
        }
        s.leaves("feed behind 300", Convents::full, x -> x.feed(0, 0, 0, 0, 0), -1);
        s.leaves("feed behind 281", x -> {
            Convents.some(x);
            Convents.tape(x, "wait 3;", 281);
        }, x -> x.feed(-1, -1, -1, -1, -1), -1);
    }

    private static void end(Sentences s) {
        s.of("Promise 4", "The tape has its first n bytes alone: n.");
        VeilOfStones x = new VeilOfStones();
        s.due("end(0) of nothing", x.end(0), 0);
        Convents.tape(x, "", 300);
        for (int n : new int[] {300, 299, 298, 20, 19, 1, 1, 0, 0}) {
            s.due("end(" + n + ")", x.end(n), n);
            s.due("about(8)", x.about(8), n);
        }
        // What was cut off does not come back.
        Check.tape(x, "wait 1;wait 0;");
        x.end(7);
        s.due("end(8) behind end(7)", x.end(8), -1);
        s.due("text()", x.text(), 0);
        s.due("played(0)", x.played(0), -1);
        s.due("DAY", x.about(3), 1);
        s.leaves("end(7) of 7", Convents::some, y -> y.end(7), 7);
    }

    private static void endBeyond(Sentences s) {
        s.of("Promise 4", "NONE, and nothing is done, if it has not so many, or n is below 0.");
        s.leaves("end(8) of 7", Convents::some, x -> x.end(8), -1);
        s.leaves("end(-1) of 7", Convents::some, x -> x.end(-1), -1);
        s.leaves("end(MIN) of 7", Convents::some, x -> x.end(Integer.MIN_VALUE), -1);
        s.leaves("end(MAX) of 7", Convents::some, x -> x.end(Integer.MAX_VALUE), -1);
        s.leaves("end(301) of 300", Convents::full, x -> x.end(301), -1);
        s.leaves("end(1) of nothing", Convents::none, x -> x.end(1), -1);
        s.leaves("end(-1) of nothing", Convents::none, x -> x.end(-1), -1);
        s.leaves("end(20) of a TEXT that was read", x -> Check.read(x, " ".repeat(20)), x -> x.end(20), -1);
    }

    private static void text(Sentences s) {
        s.of("Promise 5", "The tape (empty then) is a TEXT: its number.");
        VeilOfStones x = new VeilOfStones();
        for (int i = 0; i < 4; i++) {
            s.due("about(4)", x.about(4), i);
            Check.tape(x, "wait " + (i + 1) + ";");
            s.due("text() with " + i, x.text(), i);
            s.due("about(8)", x.about(8), 0);
        }
        for (int i = 0; i < 4; i++) {
            x.played(i);
            s.due("DAY behind TEXT " + i, x.about(3), (i + 1) * (i + 2) / 2);
        }
        VeilOfStones y = new VeilOfStones();
        s.due("text() of an empty tape", y.text(), 0);
        s.due("text() of an empty tape", y.text(), 1);
        // The TEXT stays as it was read, whatever comes upon the tape.
        Check.read(y, "wait 9;");
        Check.tape(y, "vow 0 of 0;");
        s.due("played(2)", y.played(2), -1);
        s.due("DAY", y.about(3), 9);
    }

    private static void textWithFault(Sentences s) {
        s.of("Promise 5", "NONE: it has a FAULT;");
        for (String bad : new String[] {"!", "weighs", "weighs sin;", "vow 6 of 0;", "wait 1;".repeat(25),
            "weighs 1; weighs 1;", "weighs (((((((((1", "goes 1=1; vow 1 of 0; weighs 1; ?"}) {
            s.due("text() of " + bad, Check.read(Sentences.made(Convents::some), bad), -1);
            s.due("about(8) behind it", withFault(bad).about(8), 0);
            s.due("about(4) behind it", withFault(bad).about(4), 2);
            s.same("text() of " + bad, x -> {
                Convents.some(x);
                Check.read(x, bad);
            }, x -> {
                Convents.some(x);
                x.end(0);
            }, Sight.CONVENT, Sight.STEPS, Sight.IMAGE, Sight.LAWS);
        }
        nothingIsLeft(s);
        // The next one that has none has the number.
        VeilOfStones x = withFault("weighs 1; goes");
        s.due("text()", Check.read(x, "weighs 44;"), 2);
        x.by(2);
        s.due("veil(0, 0)", x.veil(0, 0), 44);
    }

    /** A text with a FAULT leaves nothing in the TEXT that has its place then. */
    private static void nothingIsLeft(Sentences s) {
        String[] bad = {"wait 5; weighs -3; goes not 1=1; wait 6; !", "weighs 9 - 3 * (2 + -", "weighs ((((((((",
            "goes 1=1 and not not not not not not not", "goes kind", "weighs 1; goes 1=1; weighs 2;",
            "weighs -", "goes not", "weighs -3; !", "goes not 1=1; !", "weighs 1" + "+1".repeat(145) + "!"};
        for (String ahead : bad) {
            law(s, ahead, "weighs 44;", 44, 2);
            law(s, ahead, "goes sin=4;", 3, 4);
            VeilOfStones x = Check.convent(1);
            x.vow(2, 0);
            s.due("text() of " + ahead, Check.read(x, ahead), -1);
            s.due("text() of nothing behind " + ahead, Check.read(x, ""), 0);
            s.due("played(0)", x.played(0), -1);
            s.due("DAY", x.about(3), 0);
            x.by(0);
            s.due("veil(0, 0) without weighs", x.veil(0, 0), 3);
            s.due("light(0, 0, 0) without goes", x.light(0, 0, 0), 2);
            Check.read(x, ahead);
            s.due("text() of laws behind " + ahead, Check.read(x, "weighs 44;goes sin=4;wait 2;"), 1);
            x.by(1);
            s.due("veil(0, 0) by weighs", x.veil(0, 0), 44);
            s.due("light(0, 0, 0) by goes", x.light(0, 0, 0), 4);
            s.due("played(1)", x.played(1), -1);
            s.due("DAY", x.about(3), 2);
            Check.read(x, ahead);
            s.due("text() of 8 open ones behind " + ahead, Check.read(x, "weighs ((((((((1))))))));"), 2);
            Check.read(x, ahead);
            s.due("text() of 8 open ones behind " + ahead, Check.read(x, "goes --------1=2;"), 3);
        }
    }

    /** One law alone behind some texts with a FAULT: the weight of KIND 2 by it, and the SIN that takes it. */
    private static void law(Sentences s, String ahead, String law, int weight, int sin) {
        VeilOfStones x = Check.convent(1);
        x.vow(2, 0);
        for (int i = 0; i < 3; i++) {
            Check.read(x, ahead);
        }
        s.due("text() of " + law + " behind " + ahead, Check.read(x, law), 0);
        x.by(0);
        s.due("veil(0, 0)", x.veil(0, 0), weight);
        s.due("light(0, 0, 0)", x.light(0, 0, 0), sin);
    }

    private static VeilOfStones withFault(String bad) {
        VeilOfStones x = Sentences.made(Convents::some);
        Check.read(x, bad);
        return x;
    }

    private static void textWithFour(Sentences s) {
        s.of("Promise 5", "or (the tape stays) there are 4.");
        s.leaves("text() with 4", Convents::full, x -> x.text(), -1);
        s.leaves("text() with 4 of one with a FAULT", x -> {
            Convents.full(x);
            Check.tape(x, "wait 0;");
        }, x -> x.text(), -1);
        s.leaves("text() with 4 of an empty tape", x -> {
            Convents.full(x);
            x.end(0);
        }, x -> x.text(), -1);
        VeilOfStones x = new VeilOfStones();
        for (int i = 0; i < 3; i++) {
            x.text();
        }
        s.due("text() with 3", x.text(), 3);
        Check.tape(x, "wait 7;");
        s.due("text() with 4", x.text(), -1);
        s.due("about(8)", x.about(8), 7);
        x.back();
        s.due("text() of the tape that stayed, with none", x.text(), 0);
        x.played(0);
        s.due("DAY", x.about(3), 7);
    }

    private static void fault(Sentences s) {
        s.of("Promise 6", "Of the latest text that was read: 0 its FAULT (0 without), 1 its place (NONE without).");
        VeilOfStones x = new VeilOfStones();
        String[] texts = {"!", "  wait 0;", "weighs (((((((((", "weighs 1;weighs", "weighs sin",
            "wait 1;".repeat(24) + "wait", ""};
        int[] faults = {1, 2, 3, 4, 5, 6, 0};
        int[] places = {0, 7, 15, 9, 7, 168, -1};
        for (int i = 0; i < texts.length; i++) {
            Check.read(x, texts[i]);
            s.due("fault(0) of " + texts[i], x.fault(0), faults[i]);
            s.due("fault(1) of " + texts[i], x.fault(1), places[i]);
        }
        Check.read(x, "!");
        s.due("fault(0) behind a good one", x.fault(0), 1);
        Check.tape(x, "wait 0;");
        s.due("fault(0): the tape was not read yet", x.fault(0), 1);
        x.image();
        x.back();
        s.due("fault(0) behind BACK", x.fault(0), 1);
        for (int i = x.about(4); i < 4; i++) {
            x.end(0);
            x.text();
        }
        Check.tape(x, "!");
        x.text();
        s.due("fault(0): with 4 it was not read", x.fault(0), 0);
        s.due("fault(1): with 4 it was not read", x.fault(1), -1);
    }

    private static void faultForOthers(Sentences s) {
        s.of("Promise 6", "NONE for others, and ahead of any.");
        s.leaves("fault(0) ahead of any", Convents::none, x -> x.fault(0), -1);
        s.leaves("fault(1) ahead of any", Convents::none, x -> x.fault(1), -1);
        s.due("fault(0) ahead of any, with a tape", Sentences.made(x -> Check.tape(x, "!")).fault(0), -1);
        for (int what : new int[] {-1, 2, Integer.MIN_VALUE, Integer.MAX_VALUE}) {
            s.leaves("fault(" + what + ")", Convents::some, x -> x.fault(what), -1);
            s.due("fault(" + what + ") ahead of any", new VeilOfStones().fault(what), -1);
        }
        s.leaves("fault(0)", Convents::some, x -> x.fault(0), 2);
        s.leaves("fault(1)", Convents::some, x -> x.fault(1), 13);
    }

    private static void by(Sentences s) {
        s.of("Promise 7", "THE TEXT (NONE: none): true.");
        VeilOfStones x = Sentences.made(Convents::full);
        for (int text : new int[] {0, 1, 2, 3, -1, -1, 3}) {
            s.due("by(" + text + ")", x.by(text), true);
            s.due("about(5)", x.about(5), text);
        }
        s.due("about(6): no STEP", x.about(6), 30);
        s.due("by(-1) without TEXTS", new VeilOfStones().by(-1), true);
        s.leaves("by(0) again", Convents::some, y -> y.by(0) ? 1 : 0, 1);
    }

    private static void byForOthers(Sentences s) {
        s.of("Promise 7", "False for others.");
        for (int text : new int[] {-2, 2, 3, 4, Integer.MIN_VALUE, Integer.MAX_VALUE}) {
            s.leaves("by(" + text + ") with 2", Convents::some, x -> x.by(text) ? 1 : 0, 0);
        }
        s.leaves("by(4) with 4", Convents::full, x -> x.by(4) ? 1 : 0, 0);
        s.leaves("by(0) without TEXTS", Convents::none, x -> x.by(0) ? 1 : 0, 0);
        VeilOfStones x = Sentences.made(Convents::some);
        Check.read(x, "wait 0;");
        s.due("by(2) behind a text with a FAULT", x.by(2), false);
    }
}
