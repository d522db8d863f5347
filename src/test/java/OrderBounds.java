/** Part III of the document: SPREAD, LEVEL, PROCESSION, LIGHT and DONE, sentence by sentence, at their bounds. */
final class OrderBounds {
    private static final String PART = "Part III";

    static void all(Sentences s) {
        spread(s);
        levelBound(s);
        levelFewest(s);
        levelRoom(s);
        levelNoMore(s);
        levelLowest(s);
        levelGravel(s);
        procession(s);
        processionOfLike(s);
        lightBound(s);
        lightFewest(s);
        lightLowest(s);
        doneRows(s);
        doneBounds(s);
        doneThatCanBe(s);
        doneSure(s);
    }

    /** SISTERS whose veils weigh so: 0 .. 48 each, by KIND and 1. */
    static VeilOfStones weighing(int... weights) {
        VeilOfStones x = Check.convent(weights.length);
        for (int sister = 0; sister < weights.length; sister++) {
            for (int left = weights[sister]; left > 0; left -= 6) {
                x.vow(Math.min(left, 6) - 1, sister);
            }
        }
        return x;
    }

    /** GRAVEL of a SISTER: STONES of these KINDS, from the next number on. */
    static void gravel(VeilOfStones x, int sister, int... kinds) {
        for (int kind : kinds) {
            x.vow(kind, sister);
        }
        for (int kind : kinds) {
            x.sin(kind, sister);
        }
    }

    private static void spread(Sentences s) {
        s.of(PART, "SPREAD: of all SISTERS told, the greatest weight less the least (0 without SISTERS).");
        s.due("spread() without SISTERS", new VeilOfStones().spread(), 0);
        s.due("spread() of one", weighing(9).spread(), 0);
        s.due("spread() of two", weighing(9, 4).spread(), 5);
        s.due("spread() of two, the other way round", weighing(4, 9).spread(), 5);
        s.due("spread() of two alike", weighing(9, 9).spread(), 0);
        s.due("spread() with an empty veil", weighing(9, 4, 0).spread(), 9);
        s.due("spread() of six, first and last", weighing(1, 5, 5, 5, 5, 9).spread(), 8);
        s.due("spread() of six, in the middle", weighing(5, 5, 1, 9, 5, 5).spread(), 8);
        VeilOfStones x = Check.convent(2);
        Check.read(x, "weighs 99;");
        x.by(0);
        Convents.vows(x, 8, 0, 1);
        s.due("spread() of an empty veil and the heaviest", x.spread(), 792);
        x.sin(0, 1);
        s.due("spread() without GRAVEL", x.spread(), 693);
        x.sister();
        s.due("spread() with one told later", x.spread(), 693);
    }

    private static void levelBound(Sentences s) {
        s.of(PART, "LEVEL to a BOUND (0 .. 999)");
        VeilOfStones x = weighing(5, 5);
        s.due("level(-1)", x.level(-1), -1);
        s.due("level(0)", x.level(0), 0);
        s.due("level(999)", x.level(999), 0);
        s.due("level(1000)", x.level(1000), -1);
        VeilOfStones y = Check.convent(2);
        Check.read(y, "weighs 99;");
        y.by(0);
        Convents.vows(y, 8, 0, 1);
        s.due("level(791) of 792", y.level(791), -1);
        s.due("level(792) of 792", y.level(792), 0);
        s.due("level(999) of 792", y.level(999), 0);
    }

    private static void levelFewest(Sentences s) {
        s.of(PART, "the fewest STONES that are GRAVEL");
        // SISTER 0 has 6 (STONE 0); SISTER 1 had 1, 2, 3, 6 (STONES 1 .. 4).
        VeilOfStones x = weighing(6, 0);
        gravel(x, 1, 0, 1, 2, 5);
        s.due("level(0): one ahead of the lower three", x.level(0), 16);
        s.due("level(5): one", x.level(5), 2);
        s.due("level(6): none", x.level(6), 0);
        x.sin(5, 0);
        s.due("level(0) with veils that are empty: none", x.level(0), 0);
        VeilOfStones y = weighing(6, 0);
        gravel(y, 1, 0, 1, 2);
        s.due("level(0): all three", y.level(0), 14);
        s.due("level(1): two", y.level(1), 12);
        s.due("level(0) of one without GRAVEL", weighing(6, 0).level(0), -1);
        s.due("level(0) without SISTERS", new VeilOfStones().level(0), 0);
        s.due("level(0) of one SISTER", weighing(6).level(0), 0);
    }

    private static void levelRoom(Sentences s) {
        s.of(PART, "FORGIVEN all together (a veil gets 8 at most)");
        // SISTER 0: GRAVEL of 5 and 5 (STONES 0, 1), and n of 1 each; SISTER 1 has 16.
        for (int n = 6; n <= 8; n++) {
            VeilOfStones x = Check.convent(2);
            gravel(x, 0, 4, 4);
            Convents.vows(x, n, 0, 0);
            x.vow(5, 1);
            x.vow(5, 1);
            x.vow(3, 1);
            s.due("level(" + (16 - n) + ") with " + n, x.level(16 - n), 0);
            s.due("level(" + (11 - n) + ") with " + n, x.level(11 - n), n <= 7 ? 1 : -1);
            s.due("level(4) with " + n, x.level(4), n == 6 ? 3 : n == 7 ? 1 : -1);
            s.due("level(3) with " + n, x.level(3), n == 6 ? 3 : -1);
            s.due("level(0) with " + n, x.level(0), n == 6 ? 3 : -1);
        }
        // Both SISTERS get what is theirs at once.
        VeilOfStones x = weighing(1, 1, 6);
        gravel(x, 0, 4);
        gravel(x, 1, 4);
        s.due("level(0): both at once", x.level(0), 8 + 16);
        s.due("level(4)", x.level(4), 8 + 16);
    }

    private static void levelNoMore(Sentences s) {
        s.of(PART, "with which SPREAD is no more (bits of STONES)");
        VeilOfStones x = weighing(9, 2);
        gravel(x, 1, 2);
        // STONES 0, 1 are SISTER 0's, 2 is SISTER 1's, 3 is GRAVEL of 3.
        s.due("level(8)", x.level(8), 0);
        s.due("level(7): as much as SPREAD", x.level(7), 0);
        s.due("level(6): less than SPREAD", x.level(6), 8);
        s.due("level(4): as much as SPREAD behind it", x.level(4), 8);
        s.due("level(3): less than SPREAD behind it", x.level(3), -1);
        s.leaves("level(4)", y -> {
            Convents.some(y);
            y.by(-1);
        }, y -> y.level(4), 2);
        // STONE 29 is the highest bit.
        VeilOfStones y = Check.convent(5);
        for (int i = 0; i < 28; i++) {
            y.vow(0, i / 7);
        }
        y.vow(5, 4);
        y.vow(0, 4);
        y.sin(0, 4);
        s.due("level(0): STONE 29", y.level(0), 1 << 29);
    }

    private static void levelLowest(Sentences s) {
        s.of(PART, "of like ones the lowest set");
        VeilOfStones x = weighing(6, 0);
        gravel(x, 1, 1, 1, 1);
        s.due("level(4): one of three", x.level(4), 2);
        s.due("level(2): two of three", x.level(2), 6);
        // 1, 4, 2, 3 (STONES 1 .. 4): 5 is {1, 2} or {3, 4}; 4, 2, 3, 1: {1, 4} is 18, {2, 3} is 12.
        VeilOfStones y = weighing(5, 0);
        gravel(y, 1, 0, 3, 1, 2);
        s.due("level(0) of {1, 2} and {3, 4}", y.level(0), 6);
        VeilOfStones z = weighing(5, 0);
        gravel(z, 1, 3, 1, 2, 0);
        s.due("level(0) of {2, 3} and {1, 4}", z.level(0), 12);
    }

    private static void levelGravel(Sentences s) {
        s.of(PART, "with more than 12 that are GRAVEL: none.");
        for (int n = 11; n <= 14; n++) {
            VeilOfStones x = Check.convent(3);
            x.vow(0, 2);
            for (int i = 0; i < n; i++) {
                x.vow(0, i % 2);
            }
            for (int i = 0; i < n; i++) {
                x.sin(0, i % 2);
            }
            s.due("about(2)", x.about(2), n);
            s.due("level(0) with " + n, x.level(0), n <= 12 ? 6 : -1);
            s.due("level(1) with " + n, x.level(1), n <= 12 ? 0 : -1);
            s.due("level(999) with " + n, x.level(999), n <= 12 ? 0 : -1);
        }
        // All 12 are needed: six each of SISTERS 0 and 1, SISTER 2 has 6.
        VeilOfStones y = Check.convent(3);
        gravel(y, 0, 0, 0, 0, 0, 0, 0);
        gravel(y, 1, 0, 0, 0, 0, 0, 0);
        y.vow(5, 2);
        s.due("level(0) by all 12", y.level(0), 0xFFF);
        s.due("level(1) by 10", y.level(1), 0x7DF);
        // The last of 12 counts as well: STONES 1 .. 11 weigh 1, STONE 12 weighs 6.
        VeilOfStones x = Check.convent(2);
        x.vow(5, 0);
        Convents.vows(x, 7, 0, 1);
        for (int i = 0; i < 7; i++) {
            x.sin(0, 1);
        }
        gravel(x, 1, 0, 0, 0, 0, 5);
        s.due("about(2)", x.about(2), 12);
        s.due("level(0) by the last of 12", x.level(0), 1 << 12);
    }

    private static void marches(Sentences s, VeilOfStones x, int step, int... order) {
        s.due("procession(-1)", x.procession(-1), step);
        for (int i = 0; i < order.length; i++) {
            s.due("procession(" + i + ") of a step of " + step, x.procession(i), order[i]);
        }
    }

    private static void procession(Sentences s) {
        s.of(PART, "PROCESSION: all SISTERS in the order in which the greatest unlikeness of weights"
            + " of two one behind the other is least;");
        marches(s, new VeilOfStones(), 0);
        marches(s, weighing(9), 0, 0);
        marches(s, weighing(9, 4), 5, 0, 1);
        marches(s, weighing(9, 1, 5), 4, 0, 2, 1);
        marches(s, weighing(1, 20, 2, 19, 3, 18), 15, 0, 2, 4, 5, 1, 3);
        marches(s, weighing(0, 5, 10, 15, 20, 25), 5, 0, 1, 2, 3, 4, 5);
        marches(s, weighing(25, 0, 20, 5, 15, 10), 5, 0, 2, 4, 5, 3, 1);
        marches(s, weighing(15, 5, 25, 10, 0, 20), 5, 2, 5, 0, 3, 1, 4);
        marches(s, weighing(15, 5, 10, 0, 20), 5, 3, 1, 2, 0, 4);
        marches(s, weighing(10, 5, 0, 15), 5, 2, 1, 0, 3);
        marches(s, weighing(20, 15, 10, 5, 25, 0), 5, 4, 0, 1, 2, 3, 5);
        VeilOfStones x = Check.convent(2);
        Check.read(x, "weighs 99;");
        x.by(0);
        Convents.vows(x, 8, 0, 1);
        marches(s, x, 792, 0, 1);
    }

    private static void processionOfLike(Sentences s) {
        s.of(PART, "of like ones the lowest first SISTER, then second, .. .");
        marches(s, weighing(4, 4), 0, 0, 1);
        marches(s, weighing(4, 9), 5, 0, 1);
        marches(s, weighing(4, 4, 4, 4, 4, 4), 0, 0, 1, 2, 3, 4, 5);
        // 5 must be in the middle: 0 first though 1 would do.
        marches(s, weighing(1, 9, 5), 4, 0, 2, 1);
        marches(s, weighing(5, 1, 9), 4, 1, 0, 2);
        // The greatest step must be done once: what else steps less leaves the order free.
        marches(s, weighing(20, 1, 2, 3), 17, 0, 3, 1, 2);
        marches(s, weighing(10, 12, 11, 22), 10, 0, 2, 1, 3);
        marches(s, weighing(12, 10, 11, 22), 10, 1, 2, 0, 3);
    }

    private static void lightBound(Sentences s) {
        s.of(PART, "LIGHT: the fewest SINS of a SISTER until her veil weighs a BOUND (0 .. 999) or less;");
        // 6, 3, 1 (KINDS 5, 2, 0).
        VeilOfStones x = Check.convent(2);
        x.vow(5, 0);
        x.vow(2, 0);
        x.vow(0, 0);
        s.due("light(0, -1, -1)", x.light(0, -1, -1), -1);
        s.due("light(0, 1000, -1)", x.light(0, 1000, -1), -1);
        s.due("light(0, 999, -1)", x.light(0, 999, -1), 0);
        int[] fewest = {3, 2, 2, 2, 1, 1, 1, 1, 1, 1, 0, 0};
        for (int bound = 0; bound < fewest.length; bound++) {
            s.due("light(0, " + bound + ", -1)", x.light(0, bound, -1), fewest[bound]);
        }
        s.due("light(1, 0, -1) of an empty veil", x.light(1, 0, -1), 0);
        VeilOfStones y = Check.convent(1);
        Check.read(y, "weighs 99; goes 1 = 1;");
        y.by(0);
        Convents.vows(y, 8, 0, 0);
        s.due("light(0, 792, -1)", y.light(0, 792, -1), 0);
        s.due("light(0, 791, -1)", y.light(0, 791, -1), 1);
        s.due("light(0, 98, -1): all 8", y.light(0, 98, -1), 8);
        s.due("light(0, 0, -1): all 8", y.light(0, 0, -1), 8);
    }

    private static void lightFewest(Sentences s) {
        s.of(PART, "the fewest SINS of a SISTER");
        // SIN 0 takes STONES from the lowest on, SIN 3 takes STONE 7 alone, no SIN takes STONE 0.
        VeilOfStones x = Check.convent(1);
        Check.read(x, "weighs stone + 1; goes sin = 0 and stone > 0 or sin = 3 and stone = 7;");
        x.by(0);
        Convents.vows(x, 8, 0, 0);
        s.due("light(0, 28, -1): by SIN 3", x.light(0, 28, -1), 1);
        s.due("light(0, 28, 0)", x.light(0, 28, 0), 3);
        s.due("light(0, 27, -1)", x.light(0, 27, -1), 2);
        s.due("light(0, 1, -1)", x.light(0, 1, -1), 7);
        s.due("light(0, 0, -1): it can't be", x.light(0, 0, -1), -1);
        s.due("light(0, 0, 0): it can't be", x.light(0, 0, 0), -1);
        s.leaves("light(1, 0, -1)", Convents::some, y -> y.light(1, 0, -1), 2);
    }

    private static void lightLowest(Sentences s) {
        s.of(PART, "of like ones the lowest first SIN, then second, .. .");
        VeilOfStones x = Check.convent(1);
        // Each weighs 10: any two will do, in any order.
        Check.read(x, "weighs 10;");
        x.by(0);
        x.vow(5, 0);
        x.vow(1, 0);
        x.vow(3, 0);
        x.vow(1, 0);
        s.due("light(0, 30, 0)", x.light(0, 30, 0), 1);
        s.due("light(0, 20, 0)", x.light(0, 20, 0), 1);
        s.due("light(0, 20, 1)", x.light(0, 20, 1), 1);
        s.due("light(0, 10, 2)", x.light(0, 10, 2), 3);
        s.due("light(0, 0, 3)", x.light(0, 0, 3), 5);
        // The first SIN goes ahead of the second: 6 and 1 (KINDS 5, 0) are asked for as 0, 5.
        VeilOfStones y = Check.convent(1);
        y.vow(5, 0);
        y.vow(0, 0);
        y.vow(2, 0);
        s.due("light(0, 3, 0)", y.light(0, 3, 0), 0);
        s.due("light(0, 3, 1)", y.light(0, 3, 1), 5);
        s.due("light(0, 1, 0)", y.light(0, 1, 0), 2);
        s.due("light(0, 1, 1)", y.light(0, 1, 1), 5);
    }

    private static void doneRows(Sentences s) {
        s.of(PART, "how many such rows of SINS there are;");
        // 1, 2, 3 (KINDS 0, 1, 2) and 3 again.
        VeilOfStones x = Check.convent(1);
        x.vow(0, 0);
        x.vow(1, 0);
        x.vow(2, 0);
        x.vow(2, 0);
        int[][] rows = {
            {9, 0, 1}, {8, 0, 0}, {10, 0, 0}, {8, 1, 1}, {7, 1, 1}, {6, 1, 1}, {5, 1, 0}, {9, 1, 0},
            {6, 2, 2}, {5, 2, 2}, {4, 2, 2}, {3, 2, 1}, {3, 3, 6}, {2, 3, 3}, {1, 3, 3}, {0, 3, 0},
            {0, 4, 12}, {1, 4, 0}
        };
        for (int[] row : rows) {
            s.due("done(0, " + row[0] + ", " + row[1] + ", false)", x.done(0, row[0], row[1], false), row[2]);
        }
        VeilOfStones y = Check.convent(1);
        Check.read(y, "weighs 1; goes 1 = 1;");
        y.by(0);
        Convents.vows(y, 8, 0, 0);
        int all = 1;
        for (int n = 0; n <= 4; n++) {
            s.due("done(0, " + (8 - n) + ", " + n + ", false): all rows", y.done(0, 8 - n, n, false), all);
            s.due("done(0, " + (9 - n) + ", " + n + ", false): no row", y.done(0, 9 - n, n, false), 0);
            all *= 6;
        }
    }

    private static void doneBounds(Sentences s) {
        s.of(PART, "DONE: of a SISTER whose veil would weigh w (0 .. 999) behind n SINS more (0 to 4)");
        VeilOfStones x = Check.convent(1);
        Convents.vows(x, 5, 1, 0);
        s.due("done(0, -1, 0, false)", x.done(0, -1, 0, false), -1);
        s.due("done(0, 0, 0, false)", x.done(0, 0, 0, false), 0);
        s.due("done(0, 999, 0, false)", x.done(0, 999, 0, false), 0);
        s.due("done(0, 1000, 0, false)", x.done(0, 1000, 0, false), -1);
        s.due("done(0, 10, -1, false)", x.done(0, 10, -1, false), -1);
        s.due("done(0, 10, 0, false)", x.done(0, 10, 0, false), 1);
        s.due("done(0, 2, 4, false)", x.done(0, 2, 4, false), 1);
        s.due("done(0, 0, 5, false)", x.done(0, 0, 5, false), -1);
        Check.read(x, "weighs 99;");
        x.by(0);
        Convents.vows(x, 3, 1, 0);
        s.due("done(0, 792, 0, false)", x.done(0, 792, 0, false), 1);
        s.due("done(0, 396, 4, false)", x.done(0, 396, 4, false), 1);
    }

    private static void doneThatCanBe(Sentences s) {
        s.of(PART, "that can be, one behind the other");
        VeilOfStones x = Check.convent(1);
        Check.read(x, "weighs 1; goes sin = 0 or sin = 1 and stone = 0;");
        x.by(0);
        Convents.vows(x, 3, 0, 0);
        // SIN 1 can be as long as STONE 0 is there: first alone, as SIN 0 takes it too.
        s.due("done(0, 2, 1, false)", x.done(0, 2, 1, false), 2);
        s.due("done(0, 1, 2, false)", x.done(0, 1, 2, false), 2);
        s.due("done(0, 0, 3, false)", x.done(0, 0, 3, false), 2);
        s.due("done(0, 0, 4, false): one too many", x.done(0, 0, 4, false), 0);
        VeilOfStones y = Check.convent(1);
        s.due("done(0, 0, 0, false) of an empty veil", y.done(0, 0, 0, false), 1);
        s.due("done(0, 0, 1, false) of an empty veil", y.done(0, 0, 1, false), 0);
        s.leaves("done(0, 0, 1, false)", Convents::some, z -> z.done(0, 0, 1, false), 2);
    }

    private static void doneSure(Sentences s) {
        s.of(PART, "SURE: SINS (bits) that are in each of them.");
        VeilOfStones x = Check.convent(1);
        x.vow(0, 0);
        x.vow(1, 0);
        x.vow(2, 0);
        x.vow(5, 0);
        s.due("done(0, 12, 0, true): no SIN", x.done(0, 12, 0, true), 0);
        s.due("done(0, 6, 1, true): SIN 5", x.done(0, 6, 1, true), 32);
        s.due("done(0, 11, 1, true): SIN 0", x.done(0, 11, 1, true), 1);
        s.due("done(0, 9, 2, true): SINS 0 and 1", x.done(0, 9, 2, true), 3);
        s.due("done(0, 0, 4, true): all four", x.done(0, 0, 4, true), 39);
        s.due("done(0, 5, 2, true)", x.done(0, 5, 2, true), 33);
        s.due("done(0, 12, 1, true): no rows", x.done(0, 12, 1, true), 0);
        s.due("done(0, 999, 4, true): no rows", x.done(0, 999, 4, true), 0);
        // 3 and 3, 5 and 1: no SIN is in both rows.
        VeilOfStones y = Check.convent(1);
        for (int kind : new int[] {0, 2, 2, 4}) {
            y.vow(kind, 0);
        }
        s.due("done(0, 6, 2, false)", y.done(0, 6, 2, false), 3);
        s.due("done(0, 6, 2, true): none in each", y.done(0, 6, 2, true), 0);
    }
}
