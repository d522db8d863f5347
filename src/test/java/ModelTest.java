import java.util.ArrayList;
import java.util.List;
import java.util.Random;

/** All promises at once: runs of 512 calls by draws (always the same), answered as Model answers. */
public final class ModelTest {
    private static final String[] PIECES = {
        "weighs", "goes", "vow", "sin", "pass", "forgive", "wait", "of", "to", "or", "and", "not", "kind", "age",
        "sister", "stone", "sin", "<", "<=", ">", ">=", "=", "#", "+", "-", "*", "/", "(", ")", ";", "0", "1", "5",
        "6", "29", "30", "99", "100", "9999", "10000", "x", "Kind", "!", "\n", "\t"
    };

    private final Random draw;
    private final VeilOfStones x = new VeilOfStones();
    private final Model m = new Model();
    private final List<String> calls = new ArrayList<>();
    private int left = 512;
    private boolean wrong = false;

    private ModelTest(long seed) {
        draw = new Random(seed);
    }

    public static void main(String[] args) {
        int runs = Integer.getInteger("runs", 400);
        long from = Long.getLong("from", 1);
        int failed = 0;
        for (long seed = from; seed < from + runs && failed < 3; seed++) {
            ModelTest test = new ModelTest(seed);
            if (!test.run()) {
                failed++;
                System.out.println("seed " + seed + ":");
                test.calls.forEach(call -> System.out.println("  " + call));
            }
        }
        System.out.println(runs + " runs, " + failed + " failed");
        if (failed != 0) {
            System.exit(1);
        }
    }

    private void same(String call, long got, long want) {
        left--;
        calls.add(call + " answered " + got + (got == want ? "" : ", due is " + want));
        wrong |= got != want;
    }

    private void same(String call, boolean got, boolean want) {
        same(call, got ? 1 : 0, want ? 1 : 0);
    }

    private boolean run() {
        int sisters = draw.nextInt(7);
        for (int i = 0; i < sisters; i++) {
            same("sister()", x.sister(), m.sister());
        }
        int texts = draw.nextInt(5);
        for (int i = 0; i < texts; i++) {
            readText(draw.nextInt(5) == 0 ? spoilt(script()) : script());
        }
        int vows = draw.nextInt(30);
        for (int i = 0; i < vows; i++) {
            vow();
        }
        while (left > 60 && !wrong) {
            switch (draw.nextInt(5)) {
                case 0, 1 -> change();
                case 2, 3 -> ask();
                default -> rare();
            }
        }
        for (int i = 0; i < 9 && !wrong; i++) {
            same("about(" + i + ")", x.about(i), m.about(i));
        }
        return !wrong;
    }

    /** Mostly one of 0 .. most, now and then one beyond it. */
    private int upTo(int most) {
        int which = draw.nextInt(25);
        if (which == 0) {
            return most + 1;
        }
        if (which == 1) {
            return draw.nextBoolean() ? -1 : -2;
        }
        if (which == 2 && draw.nextInt(10) == 0) {
            return draw.nextBoolean() ? Integer.MAX_VALUE : Integer.MIN_VALUE;
        }
        return draw.nextInt(most + 1);
    }

    private int sister() {
        return upTo(Math.max(0, m.about(0) - 1));
    }

    private int anyStone() {
        return upTo(Math.max(0, m.about(1) - 1));
    }

    private void vow() {
        int kind = upTo(5);
        int sister = sister();
        same("vow(" + kind + ", " + sister + ")", x.vow(kind, sister), m.vow(kind, sister));
    }

    private void change() {
        int a = upTo(5);
        int s = sister();
        int t = sister();
        switch (draw.nextInt(8)) {
            case 0 -> vow();
            case 1, 2 -> same("sin(" + a + ", " + s + ")", x.sin(a, s), m.sin(a, s));
            case 3 -> same("pass(" + a + ", " + s + ", " + t + ")", x.pass(a, s, t), m.pass(a, s, t));
            case 4 -> {
                int stone = anyStone();
                same("forgive(" + stone + ")", x.forgive(stone), m.forgive(stone));
            }
            case 5 -> {
                int days = draw.nextInt(4) == 0 ? upTo(99) : upTo(5);
                same("later(" + days + ")", x.later(days), m.later(days));
            }
            case 6 -> {
                int undos = 1 + draw.nextInt(4);
                for (int i = 0; i < undos; i++) {
                    same("undo()", x.undo(), m.undo());
                }
            }
            default -> {
                int is = upTo(2) - 1;
                same("tell(" + s + ", " + t + ", " + is + ")", x.tell(s, t, is), m.tell(s, t, is));
            }
        }
    }

    private void ask() {
        int s = sister();
        int what = upTo(4);
        switch (draw.nextInt(10)) {
            case 0 -> {
                int stone = anyStone();
                same("stone(" + stone + ", " + what + ")", x.stone(stone, what), m.stone(stone, what));
            }
            case 1 -> same("veil(" + s + ", " + what % 3 + ")", x.veil(s, what % 3), m.veil(s, what % 3));
            case 2 -> same("spread()", x.spread(), m.spread());
            case 3 -> {
                int bound = draw.nextInt(8) == 0 ? upTo(999) : Math.max(0, m.spread() - draw.nextInt(12));
                same("level(" + bound + ")", x.level(bound), m.level(bound));
            }
            case 4 -> {
                for (int i = -1; i <= m.about(0); i++) {
                    same("procession(" + i + ")", x.procession(i), m.procession(i));
                }
            }
            case 5 -> light(s);
            case 6 -> {
                int n = upTo(4);
                int w = draw.nextInt(8) == 0 ? upTo(999) : Math.max(0, m.veil(s, 0) - draw.nextInt(n < 1 || n > 4 ? 2 : 8 * n));
                same("done(" + s + ", " + w + ", " + n + ", false)", x.done(s, w, n, false), m.done(s, w, n, false));
                same("done(" + s + ", " + w + ", " + n + ", true)", x.done(s, w, n, true), m.done(s, w, n, true));
            }
            case 7 -> same("fits()", x.fits(), m.fits());
            case 8 -> same("next()", x.next(), m.next());
            default -> {
                int about = upTo(8);
                same("about(" + about + ")", x.about(about), m.about(about));
            }
        }
    }

    private void light(int s) {
        int bound = draw.nextInt(8) == 0 ? upTo(999) : draw.nextInt(Math.max(1, m.veil(s, 0) + 2));
        int many = m.light(s, bound, -1);
        for (int i = -2; i <= many; i++) {
            same("light(" + s + ", " + bound + ", " + i + ")", x.light(s, bound, i), m.light(s, bound, i));
        }
    }

    private void rare() {
        switch (draw.nextInt(12)) {
            case 0 -> {
                int seed = upTo(9999);
                int n = draw.nextBoolean() ? upTo(60) : upTo(6);
                same("storm(" + seed + ", " + n + ")", x.storm(seed, n), m.storm(seed, n));
            }
            case 1, 2 -> {
                int text = upTo(3);
                same("played(" + text + ")", x.played(text), m.played(text));
            }
            case 3, 4 -> {
                int text = upTo(4) - 1;
                same("by(" + text + ")", x.by(text), m.by(text));
            }
            case 5 -> same("image()", x.image(), m.image());
            case 6 -> {
                if (draw.nextInt(2) == 0) {
                    same("back()", x.back(), m.back());
                }
            }
            case 7 -> {
                if (draw.nextInt(3) == 0) {
                    same("hush()", x.hush(), m.hush());
                }
            }
            case 8 -> same("sister()", x.sister(), m.sister());
            case 9 -> {
                int n = upTo(300);
                same("end(" + n + ")", x.end(n), m.end(n));
            }
            case 10 -> readText(draw.nextInt(3) == 0 ? script() : spoilt(script()));
            default -> readText(rubbish());
        }
    }

    private void readText(String text) {
        same("end(0)", x.end(0), m.end(0));
        for (int at = 0; at < text.length() && at < 300; at += 20) {
            int[] w = new int[5];
            for (int i = 0; i < 20; i++) {
                w[i / 4] = w[i / 4] << 8 | (at + i < text.length() ? text.charAt(at + i) & 255 : 0);
            }
            same("feed", x.feed(w[0], w[1], w[2], w[3], w[4]), m.feed(w[0], w[1], w[2], w[3], w[4]));
        }
        int length = Math.min(300, text.length());
        same("end(" + length + ")", x.end(length), m.end(length));
        same("text() of \"" + text + "\"", x.text(), m.text());
        for (int i = -1; i < 3; i++) {
            same("fault(" + i + ")", x.fault(i), m.fault(i));
        }
    }

    private String rubbish() {
        StringBuilder text = new StringBuilder(draw.nextBoolean() ? "" : draw.nextBoolean() ? "weighs " : "goes ");
        int n = draw.nextInt(40);
        for (int i = 0; i < n; i++) {
            text.append(PIECES[draw.nextInt(PIECES.length)]).append(draw.nextInt(3) == 0 ? "" : " ");
        }
        return text.toString();
    }

    /** A piece put in, taken out or put in another's place. */
    private String spoilt(String text) {
        if (text.isEmpty()) {
            return "!";
        }
        int at = draw.nextInt(text.length());
        int to = Math.min(text.length(), at + draw.nextInt(3));
        String piece = draw.nextInt(3) == 0 ? "" : PIECES[draw.nextInt(PIECES.length)];
        return text.substring(0, at) + piece + text.substring(to);
    }

    private String script() {
        StringBuilder text = new StringBuilder();
        boolean weighs = draw.nextInt(3) != 0;
        boolean goes = draw.nextInt(3) != 0;
        int n = draw.nextInt(6) == 0 ? 18 + draw.nextInt(9) : draw.nextInt(5);
        int where = draw.nextInt(n + 1);
        int goesWhere = draw.nextInt(n + 1);
        for (int i = 0; i <= n; i++) {
            if (i == where && weighs) {
                text.append("weighs ").append(sum(false, draw.nextInt(4))).append(";");
            }
            if (i == goesWhere && goes) {
                text.append(" goes ").append(either()).append(";");
            }
            if (i < n) {
                text.append(deed());
            }
        }
        return text.length() > 300 ? text.substring(0, 300) : text.toString();
    }

    private int rareBeyond(int most) {
        return draw.nextInt(120) == 0 ? most + 1 : draw.nextInt(most + 1);
    }

    private String deed() {
        int kind = rareBeyond(5);
        int sister = rareBeyond(draw.nextBoolean() ? 5 : 2);
        return switch (draw.nextInt(6)) {
            case 0, 1 -> "vow " + kind + " of " + sister + ";";
            case 2 -> "sin " + kind + " of " + sister + ";\n";
            case 3 -> "pass " + kind + " of " + sister + " to " + rareBeyond(5) + "; ";
            case 4 -> "forgive " + rareBeyond(29) + ";";
            default -> "wait " + (1 + rareBeyond(draw.nextInt(5) == 0 ? 98 : 3)) + ";";
        };
    }

    private String either() {
        StringBuilder text = new StringBuilder();
        int n = 1 + draw.nextInt(3);
        for (int i = 0; i < n; i++) {
            if (i > 0) {
                text.append(draw.nextBoolean() ? " or " : " and ");
            }
            int nots = draw.nextInt(3) == 0 ? draw.nextInt(4) : 0;
            text.append("not ".repeat(nots)).append(sum(true, draw.nextInt(3)));
            text.append(PIECES[17 + draw.nextInt(6)]).append(sum(true, draw.nextInt(2)));
        }
        return text.toString();
    }

    private String sum(boolean goes, int depth) {
        if (depth == 0) {
            return one(goes);
        }
        return switch (draw.nextInt(7)) {
            case 0 -> sum(goes, depth - 1) + " + " + sum(goes, depth - 1);
            case 1 -> sum(goes, depth - 1) + " - " + sum(goes, depth - 1);
            case 2 -> sum(goes, depth - 1) + "*" + sum(goes, depth - 1);
            case 3 -> sum(goes, depth - 1) + "/" + sum(goes, depth - 1);
            case 4 -> "(" + sum(goes, depth - 1) + ")";
            case 5 -> "-(" + sum(goes, depth - 1) + ")*-" + one(goes);
            default -> sum(goes, depth - 1) + "*" + one(goes) + "+" + sum(goes, depth - 1);
        };
    }

    private String one(boolean goes) {
        return switch (draw.nextInt(9)) {
            case 0, 1 -> "kind";
            case 2 -> "age";
            case 3 -> "sister";
            case 4 -> "stone";
            case 5 -> goes ? "sin" : "3";
            case 6 -> "-" + draw.nextInt(10);
            case 7 -> draw.nextInt(4) == 0 ? "" + draw.nextInt(10000) : "" + draw.nextInt(30);
            default -> "" + draw.nextInt(7);
        };
    }
}
