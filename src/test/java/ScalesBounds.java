/** Part III of the document: SCALES, FITS and NEXT, sentence by sentence, at their bounds. */
final class ScalesBounds {
    private static final String PART = "Part III";

    static void all(Sentences s) {
        twelveTold(s);
        twoSisters(s);
        fits(s);
        fitsAsNow(s);
        next(s);
        nextOfLike(s);
        nextOfNone(s);
    }

    private static void twelveTold(Sentences s) {
        s.of(PART, "SCALES: TOLD (12 at most)");
        VeilOfStones x = Check.convent(2);
        for (int n = 1; n <= 12; n++) {
            s.due("about(7)", x.about(7), n - 1);
            s.due("tell number " + n, x.tell(0, 1, 0), n);
        }
        s.due("tell number 13", x.tell(0, 1, 0), -1);
        s.due("about(7)", x.about(7), 12);
        // The 12th counts, and one that was refused does not.
        VeilOfStones y = Check.convent(2);
        Check.read(y, "");
        for (int n = 1; n <= 11; n++) {
            y.tell(0, 1, 0);
        }
        s.due("fits() with 11", y.fits(), 1);
        y.tell(1, 0, 1);
        s.due("fits() with a 12th that is not so", y.fits(), 0);
        x.tell(0, 1, 1);
        Check.read(x, "");
        s.due("fits() behind a refused 13th", x.fits(), 1);
    }

    private static void twoSisters(Sentences s) {
        s.of(PART, "of two unlike SISTERS the first weighs more (1), less (-1), or both alike (0).");
        s.due("tell(0, 0, 0)", Check.convent(2).tell(0, 0, 0), -1);
        s.due("tell(1, 1, 0)", Check.convent(2).tell(1, 1, 0), -1);
        s.due("tell(0, 1, 2)", Check.convent(2).tell(0, 1, 2), -1);
        s.due("tell(0, 1, -2)", Check.convent(2).tell(0, 1, -2), -1);
        for (int unlike = -1; unlike <= 1; unlike++) {
            for (int is = -1; is <= 1; is++) {
                VeilOfStones x = OrderBounds.weighing(7 + unlike, 7);
                Check.read(x, "");
                s.due("tell(0, 1, " + is + ")", x.tell(0, 1, is), 1);
                s.due("fits() if the first weighs " + unlike + " more", x.fits(), is == unlike ? 1 : 0);
                x.hush();
                s.due("tell(1, 0, " + is + ")", x.tell(1, 0, is), 1);
                s.due("fits() if the second weighs " + unlike + " more", x.fits(), is == -unlike ? 1 : 0);
            }
        }
    }

    private static void fits(Sentences s) {
        s.of(PART, "FITS: TEXTS (bits) by each of which, if it ruled, all that was TOLD is so");
        VeilOfStones x = OrderBounds.weighing(2, 5);
        s.due("fits() without TEXTS", x.fits(), 0);
        String[] texts = {"weighs kind;", "weighs 9 - kind;", "weighs 4;", "goes 1 = 1;"};
        for (int n = 1; n <= 4; n++) {
            Check.read(x, texts[n - 1]);
            s.due("fits() of " + n + " with nothing TOLD", x.fits(), (1 << n) - 1);
        }
        x.tell(0, 1, -1);
        s.due("fits(): less", x.fits(), 1 + 8);
        x.tell(1, 0, 1);
        s.due("fits(): the same again", x.fits(), 1 + 8);
        x.tell(0, 1, 0);
        s.due("fits(): and alike", x.fits(), 0);
        x.hush();
        x.tell(0, 1, 1);
        s.due("fits(): more", x.fits(), 2);
        x.hush();
        x.tell(0, 1, 0);
        s.due("fits(): alike", x.fits(), 4);
        x.by(1);
        s.due("fits() whichever rules", x.fits(), 4);
        s.due("about(5)", x.about(5), 1);
        // All that was TOLD must be so, each of three SISTERS counts.
        VeilOfStones y = OrderBounds.weighing(2, 5, 3);
        Check.read(y, "");
        y.tell(1, 2, 1);
        y.tell(0, 2, -1);
        s.due("fits(): all is so", y.fits(), 1);
        y.tell(0, 1, 1);
        s.due("fits(): the last is not so", y.fits(), 0);
        y.hush();
        y.tell(0, 1, 1);
        y.tell(1, 2, 1);
        s.due("fits(): the first is not so", y.fits(), 0);
    }

    private static void fitsAsNow(Sentences s) {
        s.of(PART, "(STONES and DAY as now).");
        VeilOfStones x = Check.convent(2);
        Check.read(x, "weighs age;");
        Check.read(x, "weighs 1;");
        x.tell(0, 1, 1);
        s.due("fits() without STONES", x.fits(), 0);
        x.vow(0, 0);
        s.due("fits() with a STONE", x.fits(), 2);
        x.later(1);
        s.due("fits() a DAY later", x.fits(), 3);
        x.undo();
        s.due("fits() with that DAY taken back", x.fits(), 2);
        x.sin(0, 0);
        s.due("fits() with GRAVEL", x.fits(), 0);
    }

    private static void next(Sentences s) {
        s.of(PART, "NEXT: the two SISTERS (6 times the lower and the higher) on whom the most of those that FIT"
            + " that would tell alike are fewest;");
        VeilOfStones x = Check.convent(6);
        for (int sister = 0; sister < 6; sister++) {
            x.vow(sister == 5 ? 4 : 2, sister);
        }
        Check.read(x, "weighs kind;");
        Check.read(x, "weighs 7 * (2 - sister / 4 * 2);");
        // By TEXT 0 the veils weigh 2, but 5's weighs 4; by TEXT 1 14, but 4's and 5's 0.
        s.due("next(): 0 and 4 are told apart", x.next(), 4);
        VeilOfStones y = Check.convent(6);
        for (int sister = 0; sister < 6; sister++) {
            y.vow(2, sister);
        }
        Check.read(y, "weighs 1 + sister / 5;");
        Check.read(y, "weighs 1 + (sister + 1) / 5;");
        // 4 and 5: less by TEXT 0, alike by TEXT 1. 0 and 4: alike, less. 0 and 5: less, less.
        s.due("next(): 0 and 4", y.next(), 4);
        y.tell(0, 4, 0);
        s.due("fits()", y.fits(), 1);
        s.due("next() of one that FITS", y.next(), 1);
        VeilOfStones z = Check.convent(6);
        for (int sister = 0; sister < 6; sister++) {
            z.vow(0, sister);
        }
        Check.read(z, "weighs 9 + (sister - 4) * (sister / 4);");
        Check.read(z, "weighs 9;");
        Check.read(z, "weighs 9 - (sister - 4) * (sister / 4);");
        // 5 weighs 10, 9, 8; all others 9: three are told apart on 0 and 5.
        s.due("next(): 0 and 5", z.next(), 5);
    }

    private static void nextOfLike(Sentences s) {
        s.of(PART, "of like ones the lowest;");
        VeilOfStones x = Check.convent(6);
        for (int sister = 0; sister < 6; sister++) {
            x.vow(0, sister);
        }
        Check.read(x, "weighs 5;");
        s.due("next() of all alike", x.next(), 1);
        Check.read(x, "weighs 5 + sister / 4;");
        s.due("next(): 0 and 4 ahead of 0 and 5", x.next(), 4);
        x.tell(0, 4, -1);
        s.due("fits()", x.fits(), 2);
        s.due("next() of the one that FITS", x.next(), 1);
        // However many tell alike on all: the lowest of all.
        VeilOfStones z = Check.convent(3);
        for (int n = 1; n <= 4; n++) {
            Check.read(z, "weighs " + n + ";");
            s.due("next() of " + n + " that tell alike", z.next(), 1);
        }
        // 4 and 5 alone are told apart.
        VeilOfStones y = Check.convent(6);
        for (int sister = 0; sister < 6; sister++) {
            y.vow(0, sister);
        }
        Check.read(y, "weighs 20 + sister / 4 * 10 + sister / 5;");
        Check.read(y, "weighs 20 + sister / 4 * 10;");
        s.due("next(): 4 and 5", y.next(), 29);
    }

    private static void nextOfNone(Sentences s) {
        s.of(PART, "none, if none FITS, or with fewer than two SISTERS.");
        VeilOfStones x = new VeilOfStones();
        s.due("next() without both", x.next(), -1);
        Check.read(x, "weighs 1;");
        s.due("next() without SISTERS", x.next(), -1);
        x.sister();
        s.due("next() with one", x.next(), -1);
        x.sister();
        s.due("next() with two", x.next(), 1);
        x.tell(0, 1, 1);
        s.due("next() if none FITS", x.next(), -1);
        x.vow(0, 0);
        s.due("next() if it FITS", x.next(), 1);
        s.due("next() without TEXTS", Check.convent(6).next(), -1);
        s.leaves("next()", Convents::some, y -> y.next(), 1);
        s.leaves("next() with all full", Convents::full, y -> y.next(), 1);
    }
}
