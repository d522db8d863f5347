/** Promises 27 to 29, sentence by sentence, at their bounds. */
final class ImagePromises {
    static void all(Sentences s) {
        image(s);
        back(s);
        itStays(s);
        about(s);
        aboutForOthers(s);
    }

    private static void image(Sentences s) {
        s.of("Promise 27", "THE IMAGE is as all is now: DAY.");
        s.leaves("image() of a new one", Convents::none, x -> x.image(), 0);
        s.due("image() of some", Sentences.made(Convents::some).image(), 3);
        s.due("image() on DAY 999", Sentences.made(Convents::full).image(), 999);
        // Nothing but THE IMAGE is another one.
        Sight[] all = {Sight.CONVENT, Sight.TAPE_AND_FAULT, Sight.STEPS, Sight.TEXT_OF_TAPE, Sight.LAWS};
        s.same("image()", x -> {
            Convents.some(x);
            x.image();
        }, Convents::some, all);
        s.same("image() of the full one", x -> {
            Convents.full(x);
            x.image();
        }, Convents::full, all);
        s.unlike("image()", x -> {
            Convents.some(x);
            x.image();
        }, Convents::some, Sight.IMAGE);
        // The latest alone.
        VeilOfStones x = Check.convent(1);
        x.image();
        x.later(5);
        s.due("image()", x.image(), 5);
        x.later(5);
        s.due("back()", x.back(), 5);
        s.due("about(6)", x.about(6), 5);
    }

    private static void back(Sentences s) {
        s.of("Promise 28", "BACK to THE IMAGE");
        VeilOfStones x = Sentences.made(Convents::some);
        s.due("back()", x.back(), 1);
        // As Convents.some has it where THE IMAGE is made.
        int[] about = {3, 3, 0, 1, 1, -1, 4, 1, 7, -2};
        for (int i = 0; i < 10; i++) {
            s.due("about(" + i + ")", x.about(i), about[i]);
        }
        s.due("veil(0, 1)", x.veil(0, 1), 3);
        s.due("veil(1, 1)", x.veil(1, 1), 4);
        s.due("veil(2, 1)", x.veil(2, 1), 0);
        s.due("fits()", x.fits(), 1);
        s.due("fault(0)", x.fault(0), 2);
        VeilOfStones y = Sentences.made(Convents::full);
        s.due("back() of the full one", y.back(), 0);
        s.due("about(0)", y.about(0), 6);
        s.due("about(1)", y.about(1), 0);
        s.due("about(4)", y.about(4), 1);
        s.due("about(6)", y.about(6), 0);
        s.due("about(8)", y.about(8), 300);
    }

    private static void itStays(Sentences s) {
        s.of("Promise 28", "(it stays): DAY.");
        VeilOfStones x = Sentences.made(Convents::some);
        for (int i = 0; i < 3; i++) {
            s.due("back() number " + i, x.back(), 1);
            s.due("about(1)", x.about(1), 3);
            s.due("about(6)", x.about(6), 4);
            s.due("about(7)", x.about(7), 1);
            // What is done behind BACK does not change THE IMAGE.
            x.vow(5, 2);
            x.later(9);
            x.undo();
            x.sin(1, 0);
            x.hush();
            x.tell(0, 2, 0);
            x.tell(0, 2, 0);
            x.sister();
            Check.read(x, "weighs 3;");
            x.by(1);
        }
        s.due("back() to DAY 999", Sentences.made(y -> {
            Convents.full(y);
            y.image();
            y.undo();
        }).back(), 999);
        s.due("back() of a new one", new VeilOfStones().back(), 0);
    }

    private static void about(Sentences s) {
        s.of("Promise 29", "0 SISTERS, 1 STONES, 2 STONES that are GRAVEL, 3 DAY, 4 TEXTS, 5 THE TEXT (NONE),"
            + " 6 STEPS that can be taken back, 7 TOLD, 8 bytes of the tape.");
        int[] none = {0, 0, 0, 0, 0, -1, 0, 0, 0};
        int[] some = {3, 6, 1, 3, 2, 0, 11, 2, 7};
        int[] full = {6, 30, 2, 999, 4, 3, 30, 12, 300};
        for (int i = 0; i < 9; i++) {
            int what = i;
            s.leaves("about(" + i + ") of nothing", Convents::none, x -> x.about(what), none[i]);
            s.leaves("about(" + i + ") of some", Convents::some, x -> x.about(what), some[i]);
            s.leaves("about(" + i + ") of the full one", Convents::full, x -> x.about(what), full[i]);
        }
        VeilOfStones x = Check.convent(4);
        for (int i = 0; i < 30; i++) {
            x.vow(0, i / 8);
        }
        for (int i = 0; i < 30; i++) {
            s.due("about(2)", x.about(2), i);
            x.sin(0, i / 8);
        }
        s.due("about(2): all of them", x.about(2), 30);
        s.due("about(1)", x.about(1), 30);
    }

    private static void aboutForOthers(Sentences s) {
        s.of("Promise 29", "-2 for others.");
        for (int what : new int[] {-1, 9, -2, 10, Integer.MIN_VALUE, Integer.MAX_VALUE}) {
            s.leaves("about(" + what + ")", Convents::some, x -> x.about(what), -2);
            s.leaves("about(" + what + ") of nothing", Convents::none, x -> x.about(what), -2);
        }
    }
}
