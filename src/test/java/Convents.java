/** Convents that tests begin with. */
final class Convents {
    static void none(VeilOfStones x) {
    }

    static void sisters(VeilOfStones x, int n) {
        for (int i = 0; i < n; i++) {
            x.sister();
        }
    }

    static void vows(VeilOfStones x, int n, int kind, int sister) {
        for (int i = 0; i < n; i++) {
            x.vow(kind, sister);
        }
    }

    /** As many DAYS go by. */
    static void days(VeilOfStones x, int days) {
        for (int left = days; left > 0; left -= 99) {
            x.later(Math.min(left, 99));
        }
    }

    /** The tape is the text and blanks, up to a length. */
    static void tape(VeilOfStones x, String text, int length) {
        Check.tape(x, text + " ".repeat(length - text.length()));
    }

    /** Three SISTERS, and some of all that there is. */
    static void some(VeilOfStones x) {
        sisters(x, 3);
        Check.read(x, "weighs kind * 2 + age; goes sin = kind or sin = 5;");
        x.vow(1, 0);
        x.vow(2, 0);
        x.vow(4, 1);
        x.later(1);
        x.tell(0, 1, -1);
        x.image();
        Check.read(x, "weighs 7; vow 3 of 2; wait 2;");
        x.by(0);
        x.vow(2, 2);
        x.vow(3, 1);
        x.vow(1, 1);
        x.sin(2, 0);
        x.pass(4, 1, 2);
        x.later(2);
        x.tell(1, 2, -1);
        Check.read(x, "wait 1; wait 0;");
        Check.tape(x, "wait 3;");
    }

    /** As much as there can be: 6 SISTERS, 30 STONES, DAY 999, 4 TEXTS, 30 STEPS, 12 TOLD, 300 bytes. */
    static void full(VeilOfStones x) {
        sisters(x, 6);
        Check.read(x, "weighs kind + sister;");
        x.image();
        Check.read(x, "weighs stone;");
        Check.read(x, "goes sin <= kind;");
        Check.read(x, "weighs 99 - age / 20; sin 1 of 1; wait 9;");
        // SISTERS 0, 1, 2 have 8 each, STONE 0 is GRAVEL without room; SISTER 3 has 4, STONE 25 is GRAVEL.
        vows(x, 8, 1, 0);
        x.sin(1, 0);
        x.vow(5, 0);
        vows(x, 8, 0, 1);
        vows(x, 8, 2, 2);
        vows(x, 5, 3, 3);
        days(x, 970);
        x.sin(3, 3);
        days(x, 29);
        // TEXTS 0, 1 and 2 FIT.
        for (int i = 0; i < 4; i++) {
            x.tell(2, 3, 1);
            x.tell(4, 5, 0);
            x.tell(2, 1, 1);
        }
        x.by(3);
        tape(x, "wait 1;", 300);
    }

    /** STONE 0 is GRAVEL (KIND 3, SISTER 0's), STONE 1 is SISTER 1's (KIND 2), SISTER 0 has n of KIND 1. */
    static void room(VeilOfStones x, int n) {
        sisters(x, 2);
        x.vow(3, 0);
        x.sin(3, 0);
        x.vow(2, 1);
        vows(x, n, 1, 0);
    }
}
