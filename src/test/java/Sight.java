import java.util.ArrayList;
import java.util.List;

/** Ways to look at an object. Each uses it up: an object is good for 512 calls alone. */
enum Sight {
    CONVENT, TAPE_AND_FAULT, STEPS, IMAGE, TEXT_OF_TAPE, TEXT_BEHIND_BACK, LAWS;

    int[] of(VeilOfStones x) {
        List<Integer> seen = new ArrayList<>();
        switch (this) {
            case CONVENT -> convent(x, seen);
            case TAPE_AND_FAULT -> tapeAndFault(x, seen);
            case STEPS -> steps(x, seen);
            case IMAGE -> {
                seen.add(x.back());
                convent(x, seen);
            }
            case TEXT_OF_TAPE -> text(x, seen);
            case TEXT_BEHIND_BACK -> {
                seen.add(x.back());
                text(x, seen);
            }
            default -> laws(x, seen);
        }
        return seen.stream().mapToInt(i -> i).toArray();
    }

    /** All but the tape and the FAULT. */
    private static void convent(VeilOfStones x, List<Integer> seen) {
        for (int i = 0; i < 8; i++) {
            seen.add(x.about(i));
        }
        int stones = x.about(1);
        for (int i = 0; i < 5 * stones; i++) {
            seen.add(x.stone(i / 5, i % 5));
        }
        for (int sister = 0; sister < 6; sister++) {
            seen.add(x.veil(sister, 0));
            seen.add(x.veil(sister, 1));
            seen.add(x.procession(sister));
            seen.add(x.light(sister, 5, -1));
        }
        seen.add(x.procession(-1));
        seen.add(x.spread());
        seen.add(x.level(3));
        seen.add(x.fits());
        seen.add(x.next());
    }

    private static void tapeAndFault(VeilOfStones x, List<Integer> seen) {
        seen.add(x.about(8));
        seen.add(x.fault(0));
        seen.add(x.fault(1));
    }

    private static void steps(VeilOfStones x, List<Integer> seen) {
        for (int i = 0; i < 31; i++) {
            seen.add(x.undo());
            seen.add(x.about(1));
            seen.add(x.about(3));
            seen.add(x.about(6));
            for (int sister = 0; sister < 6; sister++) {
                seen.add(x.veil(sister, 1));
            }
        }
    }

    private static void text(VeilOfStones x, List<Integer> seen) {
        seen.add(x.text());
        tapeAndFault(x, seen);
        seen.add(x.played(x.about(4) - 1));
        convent(x, seen);
    }

    private static void laws(VeilOfStones x, List<Integer> seen) {
        for (int text = -1; text < 4; text++) {
            seen.add(x.by(text) ? 1 : 0);
            for (int sister = 0; sister < 6; sister++) {
                seen.add(x.veil(sister, 0));
                seen.add(x.light(sister, 0, -1));
            }
        }
        for (int text = 0; text < 4; text++) {
            seen.add(x.played(text));
        }
        convent(x, seen);
    }
}
