/** Part I of the document (Terms), sentence by sentence, at its bounds. */
final class TermsBounds {
    private static final String PART = "Part I";

    static void all(Sentences s) {
        sisters(s);
        stones(s);
        kinds(s);
        sewn(s);
        where(s);
        whose(s);
        eightInVeil(s);
        days(s);
        weights(s);
        veils(s);
        vows(s);
        sins(s);
        sinsThatCannotBe(s);
        passing(s);
        forgiving(s);
        kindsOfSteps(s);
        thirtySteps(s);
        stepsAsAhead(s);
    }

    private static void sisters(Sentences s) {
        s.of(PART, "SISTERS 0 .. 5 (told one by one).");
        VeilOfStones x = new VeilOfStones();
        s.due("vow(0, -1) with none", x.vow(0, -1), -1);
        for (int n = 0; n < 6; n++) {
            s.due("vow(0, " + n + ") with " + n, x.vow(0, n), -1);
            s.due("veil(" + n + ", 0) with " + n, x.veil(n, 0), -1);
            s.due("sister() with " + n, x.sister(), n);
            s.due("veil(" + n + ", 0) with one more", x.veil(n, 0), 0);
            s.due("vow(0, " + n + ") with one more", x.vow(0, n), n);
        }
        s.due("vow(0, 6) with 6", x.vow(0, 6), -1);
        s.due("veil(6, 0) with 6", x.veil(6, 0), -1);
        s.due("about(0)", x.about(0), 6);
    }

    private static void stones(Sentences s) {
        s.of(PART, "STONES 0 .. 29 (sewn one by one)");
        VeilOfStones x = Check.convent(6);
        for (int n = 0; n < 30; n++) {
            s.due("stone(" + n + ", 0) with " + n, x.stone(n, 0), -1);
            s.due("vow with " + n, x.vow(n % 6, n % 5), n);
            s.due("stone(" + n + ", 0) with one more", x.stone(n, 0), n % 6);
        }
        s.due("vow(0, 5) with 30", x.vow(0, 5), -1);
        s.due("stone(30, 0) with 30", x.stone(30, 0), -1);
        s.due("stone(-1, 0) with 30", x.stone(-1, 0), -1);
        s.due("about(1)", x.about(1), 30);
    }

    private static void kinds(Sentences s) {
        s.of(PART, "KIND (0 .. 5)");
        s.leaves("vow(-1, 0)", Convents::some, x -> x.vow(-1, 0), -1);
        s.leaves("vow(6, 0)", Convents::some, x -> x.vow(6, 0), -1);
        VeilOfStones x = Check.convent(1);
        for (int kind = 0; kind < 6; kind++) {
            s.due("vow(" + kind + ", 0)", x.vow(kind, 0), kind);
            s.due("its KIND", x.stone(kind, 0), kind);
        }
    }

    private static void sewn(Sentences s) {
        s.of(PART, "the DAY on which it was sewn");
        VeilOfStones x = Check.convent(1);
        x.vow(0, 0);
        x.later(1);
        x.vow(0, 0);
        Convents.days(x, 997);
        x.vow(0, 0);
        x.later(1);
        x.vow(0, 0);
        int[] sewn = {0, 1, 998, 999};
        for (int i = 0; i < 4; i++) {
            s.due("stone(" + i + ", 1)", x.stone(i, 1), sewn[i]);
        }
        x.sin(0, 0);
        s.due("stone(0, 1) of GRAVEL", x.stone(0, 1), 0);
        x.forgive(0);
        s.due("stone(0, 1) of one FORGIVEN", x.stone(0, 1), 0);
    }

    private static void where(Sentences s) {
        s.of(PART, "where it is: in a SISTER's veil, or GRAVEL (6)");
        VeilOfStones x = Check.convent(6);
        x.vow(0, 0);
        x.vow(1, 5);
        s.due("stone(0, 2) in the lowest veil", x.stone(0, 2), 0);
        s.due("stone(1, 2) in the highest veil", x.stone(1, 2), 5);
        x.sin(1, 5);
        s.due("stone(1, 2) of GRAVEL", x.stone(1, 2), 6);
        s.due("stone(0, 2) is where it was", x.stone(0, 2), 0);
        s.due("veil(5, 1) without it", x.veil(5, 1), 0);
    }

    private static void whose(Sentences s) {
        s.of(PART, "and whose it was last (a SISTER).");
        VeilOfStones x = Check.convent(6);
        x.vow(0, 0);
        s.due("stone(0, 3) as sewn", x.stone(0, 3), 0);
        x.pass(0, 0, 5);
        s.due("stone(0, 3) passed on", x.stone(0, 3), 5);
        x.sin(0, 5);
        s.due("stone(0, 3) of GRAVEL", x.stone(0, 3), 5);
        x.forgive(0);
        s.due("stone(0, 3) of one FORGIVEN", x.stone(0, 3), 5);
    }

    private static void eightInVeil(Sentences s) {
        s.of(PART, "A veil has 8 at most.");
        for (int n = 0; n < 8; n++) {
            int had = n;
            s.due("vow(0, 0) with " + n, Sentences.made(x -> Convents.room(x, had)).vow(0, 0), n + 2);
            s.due("pass(2, 1, 0) with " + n, Sentences.made(x -> Convents.room(x, had)).pass(2, 1, 0), 1);
            s.due("forgive(0) with " + n, Sentences.made(x -> Convents.room(x, had)).forgive(0), 0);
        }
        s.leaves("vow(0, 0) with 8", x -> Convents.room(x, 8), x -> x.vow(0, 0), -1);
        s.leaves("pass(2, 1, 0) with 8", x -> Convents.room(x, 8), x -> x.pass(2, 1, 0), -1);
        s.leaves("forgive(0) with 8", x -> Convents.room(x, 8), x -> x.forgive(0), -1);
        VeilOfStones x = Sentences.made(y -> Convents.room(y, 8));
        s.due("vow(0, 1) while another has 8", x.vow(0, 1), 10);
        x.sin(1, 0);
        s.due("vow(0, 0) with 7 and GRAVEL", x.vow(0, 0), 11);
    }

    private static void days(Sentences s) {
        s.of(PART, "DAY 0 .. 999 (at first 0).");
        VeilOfStones x = new VeilOfStones();
        s.due("about(3) at first", x.about(3), 0);
        Convents.days(x, 998);
        s.due("about(3)", x.about(3), 998);
        s.due("later(2) on DAY 998", x.later(2), -1);
        s.due("later(1) on DAY 998", x.later(1), 999);
        s.due("later(1) on DAY 999", x.later(1), -1);
        s.due("about(3)", x.about(3), 999);
    }

    private static void weights(Sentences s) {
        s.of(PART, "A STONE WEIGHS weighs (0 at least, 99 at most; without: KIND and 1).");
        String[] sums = {"-1000 * 1000", "-2", "-1", "0", "1", "98", "99", "100", "101", "1000 * 1000"};
        int[] weights = {0, 0, 0, 0, 1, 98, 99, 99, 99, 99};
        for (int i = 0; i < sums.length; i++) {
            s.weighs(sums[i], 3, 0, 0, weights[i]);
        }
        VeilOfStones x = Check.convent(1);
        Check.read(x, "weighs 50;");
        Check.read(x, "goes 1 = 1;");
        for (int kind = 0; kind < 6; kind++) {
            x.vow(kind, 0);
            s.due("stone(.., 4) of KIND " + kind + " without THE TEXT", x.stone(kind, 4), kind + 1);
            x.by(0);
            s.due("stone(.., 4) of KIND " + kind + " with weighs", x.stone(kind, 4), 50);
            x.by(1);
            s.due("stone(.., 4) of KIND " + kind + " without weighs", x.stone(kind, 4), kind + 1);
            x.by(-1);
        }
    }

    private static void veils(Sentences s) {
        s.of(PART, "A VEIL's weight: of all in it together.");
        VeilOfStones x = Check.convent(2);
        Check.read(x, "weighs 99;");
        x.by(0);
        s.due("veil(0, 0) of an empty one", x.veil(0, 0), 0);
        for (int n = 1; n <= 8; n++) {
            x.vow(5, 0);
            s.due("veil(0, 0) of " + n, x.veil(0, 0), 99 * n);
        }
        x.vow(5, 1);
        s.due("veil(0, 0) beside another veil", x.veil(0, 0), 792);
        x.sin(5, 0);
        s.due("veil(0, 0) without GRAVEL", x.veil(0, 0), 693);
    }

    private static void vows(Sentences s) {
        s.of(PART, "A VOW: a new STONE of a KIND in a veil.");
        VeilOfStones x = Check.convent(2);
        x.later(7);
        s.due("about(1) ahead of it", x.about(1), 0);
        s.due("vow(4, 1)", x.vow(4, 1), 0);
        s.due("about(1)", x.about(1), 1);
        int[] stone = {4, 7, 1, 1, 5};
        for (int i = 0; i < 5; i++) {
            s.due("stone(0, " + i + ")", x.stone(0, i), stone[i]);
        }
        s.due("veil(0, 1)", x.veil(0, 1), 0);
        s.due("veil(1, 1)", x.veil(1, 1), 1);
        x.sin(4, 1);
        s.due("vow(4, 1) with GRAVEL of that KIND: a new one", x.vow(4, 1), 1);
    }

    private static void sins(Sentences s) {
        s.of(PART, "A SIN (0 .. 5) of a SISTER: the lowest STONE in her veil for which goes is so"
            + " (without: KIND is the SIN) is GRAVEL;");
        for (int sin = 0; sin < 6; sin++) {
            VeilOfStones x = Check.convent(2);
            // Her STONES are 1, 3, 5, .. of KINDS 0, 1, .., 5, 0, 1.
            for (int i = 0; i < 8; i++) {
                x.vow((11 - i) % 6, 1);
                x.vow(i % 6, 0);
            }
            s.due("sin(" + sin + ", 0): her lowest of that KIND", x.sin(sin, 0), 2 * sin + 1);
            s.due("where it is", x.stone(2 * sin + 1, 2), 6);
            s.due("about(2)", x.about(2), 1);
            s.due("sin(" + sin + ", 0) again", x.sin(sin, 0), sin < 2 ? 2 * sin + 13 : -1);
            Check.read(x, "goes stone > 2 * sin + 1 and kind # sin;");
            x.by(0);
            s.due("sin(" + sin + ", 0) by goes", x.sin(sin, 0), 2 * sin + 3);
        }
        s.leaves("sin(-1, 0) by goes", TermsBounds::allGo, x -> x.sin(-1, 0), -1);
        s.leaves("sin(6, 0) by goes", TermsBounds::allGo, x -> x.sin(6, 0), -1);
    }

    private static void allGo(VeilOfStones x) {
        Convents.some(x);
        Check.read(x, "goes 1 = 1;");
        x.by(2);
    }

    private static void sinsThatCannotBe(Sentences s) {
        s.of(PART, "without one it CAN'T be.");
        s.leaves("sin(0, 0) of an empty veil", x -> Convents.sisters(x, 1), x -> x.sin(0, 0), -1);
        s.leaves("sin(2, 0) without that KIND", x -> Convents.room(x, 8), x -> x.sin(2, 0), -1);
        s.leaves("sin(3, 0) with one that is GRAVEL", x -> Convents.room(x, 1), x -> x.sin(3, 0), -1);
        s.leaves("sin(2, 0) with one in another veil", x -> Convents.room(x, 0), x -> x.sin(2, 0), -1);
        s.leaves("sin(1, 0) if goes never is so", x -> {
            Convents.room(x, 8);
            Check.read(x, "goes 1 = 2;");
            x.by(0);
        }, x -> x.sin(1, 0), -1);
    }

    private static void passing(Sentences s) {
        s.of(PART, "PASSED ON: the lowest STONE of a KIND in one veil is in another one (hers then).");
        VeilOfStones x = Check.convent(3);
        x.vow(4, 2);
        x.vow(3, 0);
        x.vow(4, 0);
        x.vow(4, 0);
        s.due("pass(4, 0, 1): her lowest", x.pass(4, 0, 1), 2);
        s.due("where it is", x.stone(2, 2), 1);
        s.due("whose it is", x.stone(2, 3), 1);
        s.due("veil(0, 1)", x.veil(0, 1), 10);
        s.due("veil(1, 1)", x.veil(1, 1), 4);
        s.due("pass(4, 0, 1): the next", x.pass(4, 0, 1), 3);
        s.due("pass(4, 0, 1): none left", x.pass(4, 0, 1), -1);
        s.due("pass(4, 1, 0): and back", x.pass(4, 1, 0), 2);
        s.due("whose it is", x.stone(2, 3), 0);
    }

    private static void forgiving(Sentences s) {
        s.of(PART, "FORGIVEN: a STONE that is GRAVEL is in the veil again whose it was last, if that has room.");
        VeilOfStones x = Sentences.made(y -> Convents.room(y, 7));
        s.due("forgive(0) with room for one", x.forgive(0), 0);
        s.due("where it is", x.stone(0, 2), 0);
        s.due("veil(0, 1)", x.veil(0, 1), 0x1FD);
        s.leaves("forgive(0) without room", y -> Convents.room(y, 8), y -> y.forgive(0), -1);
        s.leaves("forgive(1) of one in a veil", y -> Convents.room(y, 0), y -> y.forgive(1), -1);
        VeilOfStones passed = Check.convent(2);
        passed.vow(2, 0);
        passed.pass(2, 0, 1);
        passed.sin(2, 1);
        Convents.vows(passed, 8, 0, 0);
        s.due("forgive(0) while she who had it first has 8", passed.forgive(0), 1);
    }

    private static void kindsOfSteps(Sentences s) {
        s.of(PART, "STEPS: a VOW, a SIN, a passing on, a forgiving, a DAY (each), a STORM (see IV)");
        VeilOfStones x = Check.convent(2);
        s.due("about(6) of SISTERS", x.about(6), 0);
        x.vow(2, 0);
        s.due("about(6) behind a VOW", x.about(6), 1);
        x.sin(2, 0);
        s.due("about(6) behind a SIN", x.about(6), 2);
        x.forgive(0);
        s.due("about(6) behind a forgiving", x.about(6), 3);
        x.pass(2, 0, 1);
        s.due("about(6) behind a passing on", x.about(6), 4);
        x.later(1);
        s.due("about(6) behind a DAY", x.about(6), 5);
        x.later(3);
        s.due("about(6) behind 3 DAYS", x.about(6), 8);
        x.storm(0, 60);
        s.due("about(6) behind a STORM", x.about(6), 9);
        Check.read(x, "vow 1 of 0; wait 2; weighs 3;");
        s.due("about(6) behind a TEXT", x.about(6), 9);
        x.played(0);
        s.due("about(6) behind a VOW and 2 DAYS that were PLAYED", x.about(6), 12);
        x.by(0);
        x.tell(0, 1, 0);
        x.hush();
        x.image();
        s.due("about(6): no others are STEPS", x.about(6), 12);
    }

    private static void thirtySteps(Sentences s) {
        s.of(PART, "the latest 30 can be taken back, the latest first");
        for (int n = 28; n <= 33; n++) {
            VeilOfStones x = new VeilOfStones();
            x.later(n);
            s.due("about(6) behind " + n, x.about(6), Math.min(n, 30));
            for (int i = 1; i <= Math.min(n, 30); i++) {
                s.due("undo() number " + i + " of " + n, x.undo(), Math.min(n, 30) - i);
                s.due("DAY", x.about(3), n - i);
            }
            s.due("undo() beyond " + n, x.undo(), -1);
            s.due("DAY", x.about(3), Math.max(0, n - 30));
        }
    }

    private static void stepsAsAhead(Sentences s) {
        s.of(PART, "(all STONES and DAY are as ahead of it).");
        String[] names = {"vow", "sin", "pass", "forgive", "later", "storm"};
        for (int i = 0; i < names.length; i++) {
            int which = i;
            s.same(names[i] + " taken back", x -> {
                Convents.some(x);
                step(s, x, which);
                x.undo();
            }, Convents::some, Sight.values());
            s.unlike(names[i], x -> {
                Convents.some(x);
                step(s, x, which);
            }, Convents::some, Sight.CONVENT);
        }
    }

    private static void step(Sentences s, VeilOfStones x, int which) {
        int answer = switch (which) {
            case 0 -> x.vow(1, 1);
            case 1 -> x.sin(5, 2);
            case 2 -> x.pass(1, 0, 2);
            case 3 -> x.forgive(1);
            case 4 -> x.later(1);
            default -> x.storm(1, 60);
        };
        s.due("the STEP can be", answer != -1, true);
    }
}
