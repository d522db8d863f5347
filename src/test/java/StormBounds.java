/** Part IV of the document: STORM, IMAGE and BACK, sentence by sentence, at their bounds. */
final class StormBounds {
    private static final String PART = "Part IV";

    static void all(Sentences s) {
        seeds(s);
        times(s);
        drawn(s);
        ifItCanBe(s);
        anew(s);
        oneStep(s);
        image(s);
        back(s);
        constant(s);
        fiveHundredTwelve(s);
    }

    /** As many SISTERS, each with one STONE of each KIND: STONE 6 times the SISTER and the KIND (up to 30). */
    private static VeilOfStones sixKinds(int sisters) {
        VeilOfStones x = Check.convent(sisters);
        for (int i = 0; i < 6 * sisters; i++) {
            x.vow(i % 6, i / 6);
        }
        return x;
    }

    private static void seeds(Sentences s) {
        s.of(PART, "A STORM by a SEED: X is SEED (0 .. 9999) * 8 + 3");
        s.leaves("storm(-1, 1)", Convents::some, x -> x.storm(-1, 1), -1);
        s.leaves("storm(10000, 1)", Convents::some, x -> x.storm(10000, 1), -1);
        // SEED 0: X is 3, then 3 * 167 + 71 = 572: SIN 2. SISTER 3 mod 2 = 1.
        VeilOfStones x = sixKinds(2);
        s.due("storm(0, 1)", x.storm(0, 1), 1);
        s.due("SIN 2 of SISTER 1", x.stone(8, 2), 6);
        // SEED 9999: X is 79995, then (79995 * 167 + 71) mod 30047 = 18368: SIN 2. SISTER 79995 mod 4 = 3.
        VeilOfStones y = sixKinds(4);
        s.due("storm(9999, 1)", y.storm(9999, 1), 1);
        s.due("SIN 2 of SISTER 3", y.stone(20, 2), 6);
        // SEED 1: X is 11, then 1908: SIN 0. SISTER 11 mod 5 = 1.
        VeilOfStones z = sixKinds(5);
        s.due("storm(1, 1)", z.storm(1, 1), 1);
        s.due("SIN 0 of SISTER 1", z.stone(6, 2), 6);
    }

    private static void times(Sentences s) {
        s.of(PART, "n times (1 .. 60)");
        s.leaves("storm(0, 0)", Convents::some, x -> x.storm(0, 0), -1);
        s.leaves("storm(0, -1)", Convents::some, x -> x.storm(0, -1), -1);
        s.leaves("storm(0, 61)", Convents::some, x -> x.storm(0, 61), -1);
        for (int n : new int[] {1, 2, 59, 60}) {
            compare(s, 5, 4321, n);
            compare(s, 1, 17, n);
        }
    }

    /** A STORM by the words of the document, with KIND is the SIN. */
    private static void compare(Sentences s, int sisters, int seed, int n) {
        VeilOfStones x = sixKinds(sisters);
        boolean[] gone = new boolean[30];
        int sins = 0;
        long drawn = seed * 8L + 3;
        for (int i = 0; i < n; i++) {
            int sister = (int) (drawn % sisters);
            drawn = (drawn * 167 + 71) % 30047;
            int stone = 6 * sister + (int) (drawn % 6);
            drawn = (drawn * 167 + 71) % 30047;
            sins += gone[stone] ? 0 : 1;
            gone[stone] = true;
        }
        s.due("storm(" + seed + ", " + n + ") of " + sisters, x.storm(seed, n), sins);
        for (int i = 0; i < 6 * sisters; i++) {
            s.due("where STONE " + i + " is behind it", x.stone(i, 2), gone[i] ? 6 : i / 6);
        }
    }

    private static void drawn(Sentences s) {
        s.of(PART, "SISTER X mod how many there are, X anew, SIN X mod 6");
        for (int sisters = 1; sisters <= 5; sisters++) {
            compare(s, sisters, 0, 3);
            compare(s, sisters, 9999, 7);
        }
        // SISTER 3 of 6 and SIN 2, then SISTER 5454 mod 6 = 0 and SIN 9479 mod 6 = 5.
        VeilOfStones x = Check.convent(6);
        x.vow(2, 3);
        x.vow(5, 0);
        s.due("storm(0, 2) of 6", x.storm(0, 2), 2);
        s.due("about(2)", x.about(2), 2);
    }

    private static void ifItCanBe(Sentences s) {
        s.of(PART, "(if it can be), X anew;");
        VeilOfStones x = Check.convent(6);
        x.vow(5, 0);
        s.due("storm(0, 1): SIN 2 of SISTER 3 can't be", x.storm(0, 1), 0);
        s.due("about(2)", x.about(2), 0);
        s.due("storm(0, 2): SIN 5 of SISTER 0 can be behind it", x.storm(0, 2), 1);
        s.due("about(2)", x.about(2), 1);
        // THE TEXT tells which STONE goes.
        VeilOfStones y = sixKinds(2);
        Check.read(y, "goes kind = 5 - sin;");
        y.by(0);
        s.due("storm(0, 1) by goes", y.storm(0, 1), 1);
        s.due("SIN 2 takes KIND 3", y.stone(9, 2), 6);
    }

    private static void anew(Sentences s) {
        s.of(PART, "X anew is (X * 167 + 71) mod 30047.");
        for (int seed = 0; seed < 10000; seed += 1111) {
            compare(s, 3, seed, 10);
        }
        compare(s, 4, 9998, 60);
    }

    private static void oneStep(Sentences s) {
        s.of(PART, "It is one STEP: how many SINS there were.");
        VeilOfStones x = sixKinds(2);
        s.due("storm(1, 60)", x.storm(1, 60), 12);
        s.due("about(2)", x.about(2), 12);
        s.due("about(6): one more than 12", x.about(6), 13);
        s.due("storm(1, 60) with empty veils", x.storm(1, 60), 0);
        s.due("about(6): a STEP without SINS", x.about(6), 14);
        s.due("undo()", x.undo(), 13);
        s.due("about(2)", x.about(2), 12);
        s.due("undo()", x.undo(), 12);
        s.due("about(2): all at once", x.about(2), 0);
        VeilOfStones y = sixKinds(5);
        s.due("about(6) with 30", y.about(6), 30);
        y.storm(1, 60);
        s.due("about(6) with 30 and a STORM", y.about(6), 30);
        s.due("undo()", y.undo(), 29);
        s.due("about(2)", y.about(2), 0);
    }

    private static void image(Sentences s) {
        s.of(PART, "AN IMAGE: all as it is, but the tape and the latest FAULT.");
        Sight[] convent = {Sight.CONVENT, Sight.STEPS, Sight.LAWS, Sight.IMAGE};
        s.same("image(), much else and back()", x -> {
            Convents.some(x);
            x.image();
            muchElse(x);
            x.back();
        }, x -> {
            Convents.some(x);
            x.image();
        }, convent);
        s.unlike("much else", x -> {
            Convents.some(x);
            muchElse(x);
        }, Convents::some, Sight.CONVENT);
        VeilOfStones x = Sentences.made(Convents::some);
        x.image();
        Check.read(x, "weighs sin;");
        Check.tape(x, "weighs 55;");
        x.back();
        s.due("about(8): the tape is as it was ahead of BACK", x.about(8), 10);
        s.due("fault(0): the latest", x.fault(0), 5);
        s.due("fault(1): the latest", x.fault(1), 7);
        s.due("text() of the tape", x.text(), 2);
        x.by(2);
        s.due("veil(0, 0)", x.veil(0, 0), 55);
        s.same("image() with all full, much taken away and back()", y -> {
            Convents.full(y);
            y.image();
            y.by(-1);
            y.hush();
            for (int i = 0; i < 30; i++) {
                y.undo();
            }
            y.back();
        }, y -> {
            Convents.full(y);
            y.image();
        }, convent);
    }

    /** Each of what an IMAGE holds is another one behind it. */
    private static void muchElse(VeilOfStones x) {
        x.sister();
        Check.read(x, "weighs 99 - kind; goes 1 = 1;");
        x.by(2);
        x.vow(5, 3);
        x.sin(0, 1);
        x.pass(1, 0, 3);
        x.forgive(1);
        x.later(35);
        x.hush();
        x.tell(2, 3, 1);
        x.storm(3, 9);
        for (int i = 0; i < 5; i++) {
            x.undo();
        }
    }

    private static void back(Sentences s) {
        s.of(PART, "BACK: all is so again.");
        s.same("back() at once", x -> {
            Convents.some(x);
            x.image();
            x.back();
        }, x -> {
            Convents.some(x);
            x.image();
        }, Sight.values());
        s.same("back() at once with all full", x -> {
            Convents.full(x);
            x.end(0);
            x.image();
            x.back();
        }, x -> {
            Convents.full(x);
            x.end(0);
            x.image();
        }, Sight.values());
        s.same("back() twice", x -> {
            Convents.some(x);
            x.back();
            x.back();
        }, x -> {
            Convents.some(x);
            x.back();
        }, Sight.values());
        // A TEXT that came behind THE IMAGE is gone, and another one has its number.
        VeilOfStones x = Check.convent(1);
        x.vow(0, 0);
        for (int i = 0; i < 3; i++) {
            Check.read(x, "weighs " + (11 + i) + ";");
        }
        x.image();
        Check.read(x, "weighs 88;");
        x.by(3);
        x.back();
        s.due("by(3)", x.by(3), false);
        s.due("text()", Check.read(x, "weighs 77;"), 3);
        x.by(3);
        s.due("veil(0, 0)", x.veil(0, 0), 77);
        x.back();
        for (int i = 0; i < 3; i++) {
            x.by(i);
            s.due("veil(0, 0) by TEXT " + i, x.veil(0, 0), 11 + i);
        }
        // Nothing is left of one that is gone in the one that has its number.
        VeilOfStones y = Check.convent(1);
        y.vow(2, 0);
        y.image();
        Check.read(y, "goes sin = 5; weighs -3; wait 1; wait 2; wait 3;");
        y.back();
        Check.read(y, "wait 9;");
        y.by(0);
        s.due("veil(0, 0) without weighs", y.veil(0, 0), 3);
        s.due("light(0, 0, 0) without goes", y.light(0, 0, 0), 2);
        s.due("played(0)", y.played(0), -1);
        s.due("DAY", y.about(3), 9);
    }

    private static void constant(Sentences s) {
        s.of("The constants", "`NONE = -1`: None.");
        s.due("NONE", VeilOfStones.NONE, -1);
    }

    private static void fiveHundredTwelve(Sentences s) {
        s.of("What it is", "An object is used for at most 512 calls after it has been made;"
            + " what later calls answer is free.");
        VeilOfStones x = new VeilOfStones();
        for (int i = 0; i < 256; i++) {
            s.due("later(1), call " + (2 * i + 1), x.later(1), 1);
            s.due("undo(), call " + (2 * i + 2), x.undo(), 0);
        }
        // Free, but no call may ever throw or fail to end.
        Convents.full(x);
        for (Sight way : Sight.values()) {
            s.due(way + " beyond call 512 ends", way.of(x).length > 0, true);
        }
    }
}
