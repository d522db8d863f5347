/** Promises 18 to 26, sentence by sentence, at their bounds. */
final class ViewPromises {
    private static final int[] FAR = {-2, Integer.MIN_VALUE, Integer.MAX_VALUE};

    static void all(Sentences s) {
        spread(s);
        level(s);
        levelOfNone(s);
        procession(s);
        processionForOthers(s);
        light(s);
        lightForOthers(s);
        done(s);
        doneForOthers(s);
        tell(s);
        tellForOthers(s);
        hush(s);
        fits(s);
        next(s);
        nextOfNone(s);
    }

    private static void spread(Sentences s) {
        s.of("Promise 18", "SPREAD.");
        s.leaves("spread() without SISTERS", Convents::none, x -> x.spread(), 0);
        s.leaves("spread() of 5, 12, 17", Convents::some, x -> x.spread(), 12);
        s.leaves("spread() of the full one", Convents::full, x -> x.spread(), 400);
    }

    /** By none: 2 (and 3 of GRAVEL, STONE 1), 6, 8. */
    private static void light(VeilOfStones x) {
        Convents.some(x);
        x.by(-1);
    }

    private static void level(Sentences s) {
        s.of("Promise 19", "LEVEL (bits).");
        s.leaves("level(6)", ViewPromises::light, x -> x.level(6), 0);
        s.leaves("level(5)", ViewPromises::light, x -> x.level(5), 2);
        s.leaves("level(3)", ViewPromises::light, x -> x.level(3), 2);
        s.leaves("level(0) without SISTERS", Convents::none, x -> x.level(0), 0);
        s.leaves("level(999) of the full one", Convents::full, x -> x.level(999), 0);
        s.leaves("level(400) of the full one", Convents::full, x -> x.level(400), 0);
    }

    private static void levelOfNone(Sentences s) {
        s.of("Promise 19", "NONE: none, and for others.");
        s.leaves("level(2): none", ViewPromises::light, x -> x.level(2), -1);
        s.leaves("level(399) of the full one: none", Convents::full, x -> x.level(399), -1);
        s.leaves("level(-1)", ViewPromises::light, x -> x.level(-1), -1);
        s.leaves("level(1000)", ViewPromises::light, x -> x.level(1000), -1);
        s.leaves("level(-1) without SISTERS", Convents::none, x -> x.level(-1), -1);
        s.leaves("level(1000) without SISTERS", Convents::none, x -> x.level(1000), -1);
        for (int far : FAR) {
            s.leaves("level(" + far + ")", ViewPromises::light, x -> x.level(far), -1);
        }
    }

    private static void procession(Sentences s) {
        s.of("Promise 20", "PROCESSION: the greatest unlikeness (i NONE; 0 with fewer than two), the i-th SISTER.");
        s.leaves("procession(-1) without SISTERS", Convents::none, x -> x.procession(-1), 0);
        s.due("procession(-1) with one", OrderBounds.weighing(9).procession(-1), 0);
        s.due("procession(0) with one", OrderBounds.weighing(9).procession(0), 0);
        s.due("procession(-1) with two", OrderBounds.weighing(9, 8).procession(-1), 1);
        s.leaves("procession(-1) of 5, 12, 17", Convents::some, x -> x.procession(-1), 7);
        for (int i = 0; i < 3; i++) {
            int asked = i;
            s.leaves("procession(" + i + ") of 5, 12, 17", Convents::some, x -> x.procession(asked), i);
        }
        // 400, 400, 400, 200, 0, 0.
        int[] full = {200, 0, 1, 2, 3, 4, 5};
        for (int i = -1; i < 6; i++) {
            s.due("procession(" + i + ") of 6", Sentences.made(Convents::full).procession(i), full[i + 1]);
        }
    }

    private static void processionForOthers(Sentences s) {
        s.of("Promise 20", "-2 if there is none such, and for others.");
        s.leaves("procession(0) without SISTERS", Convents::none, x -> x.procession(0), -2);
        s.due("procession(1) with one", OrderBounds.weighing(9).procession(1), -2);
        s.leaves("procession(3) with 3", Convents::some, x -> x.procession(3), -2);
        s.leaves("procession(6) with 6", Convents::full, x -> x.procession(6), -2);
        for (int far : FAR) {
            s.leaves("procession(" + far + ")", Convents::some, x -> x.procession(far), -2);
            s.leaves("procession(" + far + ") without SISTERS", Convents::none, x -> x.procession(far), -2);
        }
    }

    private static void light(Sentences s) {
        s.of("Promise 21", "LIGHT: how many SINS (i NONE); the i-th.");
        // By TEXT 0 her STONES 4 (KIND 3) and 5 (KIND 1) weigh 8 and 4; SIN 5 takes the lowest.
        s.leaves("light(1, 12, -1)", Convents::some, x -> x.light(1, 12, -1), 0);
        s.leaves("light(1, 11, -1)", Convents::some, x -> x.light(1, 11, -1), 1);
        s.leaves("light(1, 11, 0)", Convents::some, x -> x.light(1, 11, 0), 1);
        s.leaves("light(1, 7, 0)", Convents::some, x -> x.light(1, 7, 0), 3);
        s.leaves("light(1, 3, -1)", Convents::some, x -> x.light(1, 3, -1), 2);
        s.leaves("light(1, 3, 0)", Convents::some, x -> x.light(1, 3, 0), 1);
        s.leaves("light(1, 3, 1)", Convents::some, x -> x.light(1, 3, 1), 3);
        VeilOfStones x = Check.convent(1);
        for (int i = 0; i < 8; i++) {
            x.vow(i % 4, 0);
        }
        s.due("light(0, 0, -1): as many as there can be", x.light(0, 0, -1), 8);
        for (int i = 0; i < 8; i++) {
            s.due("light(0, 0, " + i + ")", x.light(0, 0, i), i / 2);
        }
        s.due("light(0, 0, 8)", x.light(0, 0, 8), -1);
    }

    private static void lightForOthers(Sentences s) {
        s.of("Promise 21", "NONE: none, there is none such, and for others.");
        s.leaves("light(1, 12, 0) of none", Convents::some, x -> x.light(1, 12, 0), -1);
        s.leaves("light(1, 11, 1) of one", Convents::some, x -> x.light(1, 11, 1), -1);
        s.leaves("light(1, 3, 2) of two", Convents::some, x -> x.light(1, 3, 2), -1);
        for (int i = -1; i < 2; i++) {
            int asked = i;
            s.leaves("light(0, 0, " + i + ") that can't be", x -> {
                Convents.some(x);
                Check.read(x, "goes 1 = 2;");
                x.by(2);
            }, x -> x.light(0, 0, asked), -1);
            s.leaves("light(-1, 0, " + i + ")", Convents::some, x -> x.light(-1, 0, asked), -1);
            s.leaves("light(3, 999, " + i + ") with 3", Convents::some, x -> x.light(3, 999, asked), -1);
            s.leaves("light(6, 999, " + i + ") with 6", Convents::full, x -> x.light(6, 999, asked), -1);
            s.leaves("light(1, -1, " + i + ")", Convents::some, x -> x.light(1, -1, asked), -1);
            s.leaves("light(1, 1000, " + i + ")", Convents::some, x -> x.light(1, 1000, asked), -1);
            s.leaves("light(0, 0, " + i + ") without SISTERS", Convents::none, x -> x.light(0, 0, asked), -1);
        }
        s.due("light(1, 999, -1)", Sentences.made(Convents::some).light(1, 999, -1), 0);
        for (int far : FAR) {
            s.leaves("light(1, 3, " + far + ")", Convents::some, x -> x.light(1, 3, far), -1);
            s.leaves("light(1, " + far + ", -1)", Convents::some, x -> x.light(1, far, -1), -1);
            s.leaves("light(" + far + ", 3, -1)", Convents::some, x -> x.light(far, 3, -1), -1);
        }
    }

    private static void done(Sentences s) {
        s.of("Promise 22", "DONE: how many rows (sure false), SURE (bits; 0 without rows).");
        // 8 and 4 by TEXT 0: SIN 3 or 5 takes STONE 4, SIN 1 (or 5 behind that) takes STONE 5.
        int[][] asked = {
            {12, 0, 1, 0}, {11, 0, 0, 0}, {4, 1, 2, 0}, {8, 1, 1, 2}, {12, 1, 0, 0}, {0, 2, 6, 0}, {0, 1, 0, 0},
            {0, 3, 0, 0}, {0, 4, 0, 0}
        };
        for (int[] a : asked) {
            String call = "done(1, " + a[0] + ", " + a[1] + ", ";
            s.leaves(call + "false)", Convents::some, x -> x.done(1, a[0], a[1], false), a[2]);
            s.leaves(call + "true)", Convents::some, x -> x.done(1, a[0], a[1], true), a[3]);
        }
        s.due("done(4, 0, 0, false) of an empty veil", Sentences.made(Convents::full).done(4, 0, 0, false), 1);
        s.due("done(4, 0, 0, true) of an empty veil", Sentences.made(Convents::full).done(4, 0, 0, true), 0);
        s.due("done(4, 0, 4, true) of an empty veil", Sentences.made(Convents::full).done(4, 0, 4, true), 0);
    }

    private static void doneForOthers(Sentences s) {
        s.of("Promise 22", "NONE for others.");
        for (int i = 0; i < 2; i++) {
            boolean sure = i == 1;
            s.leaves("done(-1, 0, 0, " + sure + ")", Convents::some, x -> x.done(-1, 0, 0, sure), -1);
            s.leaves("done(3, 0, 0, " + sure + ") with 3", Convents::some, x -> x.done(3, 0, 0, sure), -1);
            s.leaves("done(6, 0, 0, " + sure + ") with 6", Convents::full, x -> x.done(6, 0, 0, sure), -1);
            s.leaves("done(1, -1, 0, " + sure + ")", Convents::some, x -> x.done(1, -1, 0, sure), -1);
            s.leaves("done(1, 1000, 0, " + sure + ")", Convents::some, x -> x.done(1, 1000, 0, sure), -1);
            s.leaves("done(1, 12, -1, " + sure + ")", Convents::some, x -> x.done(1, 12, -1, sure), -1);
            s.leaves("done(1, 0, 5, " + sure + ")", Convents::some, x -> x.done(1, 0, 5, sure), -1);
            s.leaves("done(0, 0, 0, " + sure + ") without SISTERS", Convents::none, x -> x.done(0, 0, 0, sure), -1);
            s.leaves("done(1, 999, 4, " + sure + ")", Convents::some, x -> x.done(1, 999, 4, sure), 0);
            for (int far : FAR) {
                s.leaves("done(" + far + ", 0, 0, " + sure + ")", Convents::some, x -> x.done(far, 0, 0, sure), -1);
                s.leaves("done(1, " + far + ", 0, " + sure + ")", Convents::some, x -> x.done(1, far, 0, sure), -1);
                s.leaves("done(1, 0, " + far + ", " + sure + ")", Convents::some, x -> x.done(1, 0, far, sure), -1);
            }
        }
    }

    private static void tell(Sentences s) {
        s.of("Promise 23", "TOLD: how many there are.");
        VeilOfStones x = Check.convent(6);
        for (int n = 1; n <= 12; n++) {
            s.due("tell number " + n, x.tell(n % 6, 5 - n % 6, n % 3 - 1), n);
            s.due("about(7)", x.about(7), n);
        }
        s.due("about(6): no STEP", x.about(6), 0);
        // The same once more, and what contradicts it, count as well.
        VeilOfStones y = Check.convent(2);
        s.due("tell(0, 1, 1)", y.tell(0, 1, 1), 1);
        s.due("tell(0, 1, 1) again", y.tell(0, 1, 1), 2);
        s.due("tell(0, 1, -1)", y.tell(0, 1, -1), 3);
        s.due("tell(1, 0, 0)", y.tell(1, 0, 0), 4);
    }

    private static void tellForOthers(Sentences s) {
        s.of("Promise 23", "NONE for others, or if there are 12.");
        s.leaves("tell(0, 0, 0)", Convents::some, x -> x.tell(0, 0, 0), -1);
        s.leaves("tell(0, 1, 2)", Convents::some, x -> x.tell(0, 1, 2), -1);
        s.leaves("tell(0, 1, -2)", Convents::some, x -> x.tell(0, 1, -2), -1);
        s.leaves("tell(0, 3, 0) with 3", Convents::some, x -> x.tell(0, 3, 0), -1);
        s.leaves("tell(3, 0, 0) with 3", Convents::some, x -> x.tell(3, 0, 0), -1);
        s.leaves("tell(-1, 0, 0)", Convents::some, x -> x.tell(-1, 0, 0), -1);
        s.leaves("tell(0, -1, 0)", Convents::some, x -> x.tell(0, -1, 0), -1);
        s.leaves("tell(0, 1, 0) without SISTERS", Convents::none, x -> x.tell(0, 1, 0), -1);
        s.leaves("tell(0, 1, 0) with 12", Convents::full, x -> x.tell(0, 1, 0), -1);
        for (int far : FAR) {
            s.leaves("tell(" + far + ", 0, 0)", Convents::some, x -> x.tell(far, 0, 0), -1);
            s.leaves("tell(0, " + far + ", 0)", Convents::some, x -> x.tell(0, far, 0), -1);
            s.leaves("tell(0, 1, " + far + ")", Convents::some, x -> x.tell(0, 1, far), -1);
        }
        VeilOfStones x = Sentences.made(Convents::full);
        x.hush();
        for (int n = 1; n <= 11; n++) {
            x.tell(0, 1, 0);
        }
        s.due("tell(0, 1, 0) with 11", x.tell(0, 1, 0), 12);
        s.due("tell(0, 1, 0) with 12", x.tell(0, 1, 0), -1);
    }

    private static void hush(Sentences s) {
        s.of("Promise 24", "Nothing is TOLD: how many there were.");
        s.leaves("hush() of nothing", Convents::none, x -> x.hush(), 0);
        for (int n = 0; n <= 12; n++) {
            VeilOfStones x = Check.convent(2);
            for (int i = 0; i < n; i++) {
                x.tell(0, 1, 1);
            }
            s.due("hush() with " + n, x.hush(), n);
            s.due("about(7)", x.about(7), 0);
            s.due("hush() again", x.hush(), 0);
        }
        VeilOfStones x = Check.convent(2);
        Check.read(x, "");
        x.tell(0, 1, 1);
        x.hush();
        s.due("fits() with nothing TOLD", x.fits(), 1);
        x.tell(0, 1, 0);
        s.due("fits(): what was TOLD ahead of it is gone", x.fits(), 1);
    }

    private static void fits(Sentences s) {
        s.of("Promise 25", "FITS (bits).");
        s.leaves("fits() of nothing", Convents::none, x -> x.fits(), 0);
        s.leaves("fits() of some", Convents::some, x -> x.fits(), 1);
        s.leaves("fits() of the full one", Convents::full, x -> x.fits(), 7);
        VeilOfStones x = Sentences.made(Convents::full);
        x.hush();
        s.due("fits() with nothing TOLD", x.fits(), 15);
    }

    private static void next(Sentences s) {
        s.of("Promise 26", "NEXT.");
        s.leaves("next() of some", Convents::some, x -> x.next(), 1);
        // 12, 8, 32, 24, 0, 0 by TEXT 0; 36, 100, 164, 110, 0, 0 by TEXT 1; 20, 8, 24, 16, 0, 0 by TEXT 2.
        s.leaves("next() of the full one", Convents::full, x -> x.next(), 1);
        VeilOfStones x = Sentences.made(Convents::full);
        x.tell(0, 1, 1);
        s.due("next() with 12 TOLD already", x.next(), 1);
        x.hush();
        x.tell(0, 1, 1);
        s.due("fits()", x.fits(), 5);
        s.due("next() of TEXTS 0 and 2: 0 and 3", x.next(), 3);
    }

    private static void nextOfNone(Sentences s) {
        s.of("Promise 26", "NONE: none.");
        s.leaves("next() of nothing", Convents::none, x -> x.next(), -1);
        s.leaves("next() without TEXTS", x -> Convents.sisters(x, 6), x -> x.next(), -1);
        s.leaves("next() with one SISTER", x -> {
            Convents.sisters(x, 1);
            Check.read(x, "weighs 1;");
        }, x -> x.next(), -1);
        s.leaves("next() if none FITS", x -> {
            Convents.some(x);
            x.tell(0, 1, 0);
        }, x -> x.next(), -1);
    }
}
