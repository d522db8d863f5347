import java.util.ArrayDeque;
import java.util.ArrayList;
import java.util.Arrays;
import java.util.Comparator;
import java.util.HashSet;
import java.util.List;
import java.util.Set;
import java.util.TreeSet;
import java.util.regex.Matcher;
import java.util.regex.Pattern;

/** The document written a second time, with the whole Java library and no thought of cost. */
final class Model {
    private interface Rule {
        long of(long kind, long age, long sister, long stone, long sin);
    }

    private static final class Fault extends RuntimeException {
        private static final long serialVersionUID = 1L;
        final int number;
        final int place;

        Fault(int number, int place) {
            this.number = number;
            this.place = place;
        }
    }

    private static final class Text {
        Rule weighs = null;
        Rule goes = null;
        final List<String[]> clauses = new ArrayList<>();
    }

    private record Stone(int kind, int sewn, int where, int whose) {
    }

    private record Step(List<Stone> stones, int day) {
    }

    private record Told(int one, int other, int is) {
    }

    private static final class State {
        int sisters = 0;
        int day = 0;
        int ruling = -1;
        List<Stone> stones = new ArrayList<>();
        List<Text> texts = new ArrayList<>();
        List<Step> steps = new ArrayList<>();
        List<Told> told = new ArrayList<>();

        State copy() {
            State other = new State();
            other.sisters = sisters;
            other.day = day;
            other.ruling = ruling;
            other.stones = new ArrayList<>(stones);
            other.texts = new ArrayList<>(texts);
            other.steps = new ArrayList<>(steps);
            other.told = new ArrayList<>(told);
            return other;
        }
    }

    /** A TEXT by the grammar, one method a rule of it. */
    private static final class Parser {
        private static final Pattern TOKEN = Pattern.compile("[a-zA-Z]+|[0-9]+|<=|>=|[<>=#+*/();-]");
        private static final Set<String> WORDS = Set.of("weighs", "goes", "vow", "sin", "pass", "forgive", "wait");
        private final List<String> tokens = new ArrayList<>();
        private final List<Integer> places = new ArrayList<>();
        private final Text text = new Text();
        private int i = 0;
        private int open = 0;
        private boolean inGoes = false;

        Parser(String tape) {
            Matcher matcher = TOKEN.matcher(tape);
            int at = 0;
            while (at < tape.length()) {
                if (tape.charAt(at) == 32 || tape.charAt(at) == 10) {
                    at++;
                    continue;
                }
                places.add(at);
                if (matcher.region(at, tape.length()).lookingAt()) {
                    tokens.add(matcher.group());
                    at = matcher.end();
                } else {
                    tokens.add("?none");
                    at++;
                }
            }
            tokens.add("?end");
            places.add(tape.length());
        }

        Text parse() {
            while (!is("?end")) {
                clause();
            }
            return text;
        }

        private boolean is(String token) {
            return tokens.get(i).equals(token);
        }

        private Fault fault(int number) {
            return new Fault(number, places.get(i));
        }

        private void take(String token) {
            if (!is(token)) {
                throw fault(1);
            }
            i++;
        }

        private boolean isNumber() {
            return Character.isDigit(tokens.get(i).charAt(0));
        }

        private int number(int low, int high) {
            if (!isNumber()) {
                throw fault(1);
            }
            String digits = tokens.get(i).replaceFirst("^0+(?=.)", "");
            if (digits.length() > 4 || Integer.parseInt(digits) < low || Integer.parseInt(digits) > high) {
                throw fault(2);
            }
            i++;
            return Integer.parseInt(digits);
        }

        private void clause() {
            String word = tokens.get(i);
            Set<Integer> faults = new TreeSet<>();
            if (!WORDS.contains(word)) {
                faults.add(1);
            }
            if (word.equals("weighs") && text.weighs != null || word.equals("goes") && text.goes != null) {
                faults.add(4);
            }
            if (text.clauses.size() == 24) {
                faults.add(6);
            }
            if (!faults.isEmpty()) {
                throw fault(faults.iterator().next());
            }
            i++;
            List<String> parts = new ArrayList<>(List.of(word));
            switch (word) {
                case "weighs" -> {
                    inGoes = false;
                    text.weighs = sum();
                }
                case "goes" -> {
                    inGoes = true;
                    text.goes = either();
                }
                case "forgive" -> parts.add("" + number(0, 29));
                case "wait" -> parts.add("" + number(1, 99));
                default -> {
                    parts.add("" + number(0, 5));
                    take("of");
                    parts.add("" + number(0, 5));
                    if (word.equals("pass")) {
                        take("to");
                        parts.add("" + number(0, 5));
                    }
                }
            }
            take(";");
            text.clauses.add(parts.toArray(new String[0]));
        }

        private Rule either() {
            Rule left = both();
            while (is("or")) {
                i++;
                Rule a = left;
                Rule b = both();
                left = (k, g, s, n, x) -> Math.max(a.of(k, g, s, n, x), b.of(k, g, s, n, x));
            }
            return left;
        }

        private Rule both() {
            Rule left = ask();
            while (is("and")) {
                i++;
                Rule a = left;
                Rule b = ask();
                left = (k, g, s, n, x) -> Math.min(a.of(k, g, s, n, x), b.of(k, g, s, n, x));
            }
            return left;
        }

        private void openOne() {
            if (open == 8) {
                throw fault(3);
            }
            open++;
            i++;
        }

        private Rule ask() {
            if (is("not")) {
                openOne();
                Rule inner = ask();
                open--;
                return (k, g, s, n, x) -> 1 - inner.of(k, g, s, n, x);
            }
            Rule a = sum();
            String sign = tokens.get(i);
            if (!List.of("<", "<=", ">", ">=", "=", "#").contains(sign)) {
                throw fault(1);
            }
            i++;
            Rule b = sum();
            return (k, g, s, n, x) -> compare(sign, a.of(k, g, s, n, x), b.of(k, g, s, n, x)) ? 1 : 0;
        }

        private static boolean compare(String sign, long a, long b) {
            return switch (sign) {
                case "<" -> a < b;
                case "<=" -> a <= b;
                case ">" -> a > b;
                case ">=" -> a >= b;
                case "=" -> a == b;
                default -> a != b;
            };
        }

        private static long hold(long value) {
            return Math.max(-1000000L, Math.min(1000000L, value));
        }

        private Rule sum() {
            Rule left = product();
            while (is("+") || is("-")) {
                int sign = is("+") ? 1 : -1;
                i++;
                Rule a = left;
                Rule b = product();
                left = (k, g, s, n, x) -> hold(a.of(k, g, s, n, x) + sign * b.of(k, g, s, n, x));
            }
            return left;
        }

        private Rule product() {
            Rule left = one();
            while (is("*") || is("/")) {
                boolean times = is("*");
                i++;
                Rule a = left;
                Rule b = one();
                left = (k, g, s, n, x) -> {
                    long p = a.of(k, g, s, n, x);
                    long q = b.of(k, g, s, n, x);
                    return times ? hold(p * q) : q == 0 ? 0 : p / q;
                };
            }
            return left;
        }

        private Rule one() {
            if (isNumber()) {
                long value = number(0, 9999);
                return (k, g, s, n, x) -> value;
            }
            String token = tokens.get(i);
            switch (token) {
                case "(" -> {
                    openOne();
                    Rule inner = sum();
                    take(")");
                    open--;
                    return inner;
                }
                case "-" -> {
                    openOne();
                    Rule inner = one();
                    open--;
                    return (k, g, s, n, x) -> -inner.of(k, g, s, n, x);
                }
                case "sin" -> {
                    if (!inGoes) {
                        throw fault(5);
                    }
                    i++;
                    return (k, g, s, n, x) -> x;
                }
                case "kind", "age", "sister", "stone" -> {
                    i++;
                    return name(token);
                }
                default -> throw fault(1);
            }
        }

        private static Rule name(String token) {
            return switch (token) {
                case "kind" -> (k, g, s, n, x) -> k;
                case "age" -> (k, g, s, n, x) -> g;
                case "sister" -> (k, g, s, n, x) -> s;
                default -> (k, g, s, n, x) -> n;
            };
        }
    }

    private State now = new State();
    private State image = new State();
    private String tape = "";
    private int fault = -1;
    private int place = -1;

    int sister() {
        return now.sisters == 6 ? -1 : now.sisters++;
    }

    int feed(int a, int b, int c, int d, int e) {
        if (tape.length() + 20 > 300) {
            return -1;
        }
        for (int word : new int[] {a, b, c, d, e}) {
            for (int i = 3; i >= 0; i--) {
                tape += (char) (word >>> 8 * i & 0xFF);
            }
        }
        return tape.length();
    }

    int end(int n) {
        if (n < 0 || n > tape.length()) {
            return -1;
        }
        tape = tape.substring(0, n);
        return n;
    }

    int text() {
        if (now.texts.size() == 4) {
            return -1;
        }
        String read = tape;
        tape = "";
        try {
            now.texts.add(new Parser(read).parse());
        } catch (Fault f) {
            fault = f.number;
            place = f.place;
            return -1;
        }
        fault = 0;
        place = -1;
        return now.texts.size() - 1;
    }

    int fault(int what) {
        return what == 0 ? fault : what == 1 ? place : -1;
    }

    boolean by(int text) {
        boolean can = text >= -1 && text < now.texts.size();
        if (can) {
            now.ruling = text;
        }
        return can;
    }

    private void step() {
        now.steps.add(new Step(new ArrayList<>(now.stones), now.day));
        if (now.steps.size() > 30) {
            now.steps.remove(0);
        }
    }

    private boolean told(int sister) {
        return sister >= 0 && sister < now.sisters;
    }

    private List<Integer> veilOf(List<Stone> stones, int where) {
        List<Integer> in = new ArrayList<>();
        for (int i = 0; i < stones.size(); i++) {
            if (stones.get(i).where == where) {
                in.add(i);
            }
        }
        return in;
    }

    private int weight(List<Stone> stones, int i) {
        Stone stone = stones.get(i);
        Rule rule = now.ruling < 0 ? null : now.texts.get(now.ruling).weighs;
        long value = rule == null ? stone.kind + 1 : rule.of(stone.kind, now.day - stone.sewn, stone.whose, i, -77);
        return (int) Math.max(0, Math.min(99, value));
    }

    private int weightOf(List<Stone> stones, int sister) {
        return veilOf(stones, sister).stream().mapToInt(i -> weight(stones, i)).sum();
    }

    private int gone(List<Stone> stones, int sin, int sister) {
        Rule rule = now.ruling < 0 ? null : now.texts.get(now.ruling).goes;
        for (int i : veilOf(stones, sister)) {
            Stone stone = stones.get(i);
            boolean goes = rule == null ? stone.kind == sin
                : rule.of(stone.kind, now.day - stone.sewn, stone.whose, i, sin) == 1;
            if (goes) {
                return i;
            }
        }
        return -1;
    }

    private static List<Stone> moved(List<Stone> stones, int i, int where, int whose) {
        List<Stone> after = new ArrayList<>(stones);
        after.set(i, new Stone(stones.get(i).kind, stones.get(i).sewn, where, whose));
        return after;
    }

    int vow(int kind, int sister) {
        if (kind < 0 || kind > 5 || !told(sister) || veilOf(now.stones, sister).size() == 8 || now.stones.size() == 30) {
            return -1;
        }
        step();
        now.stones.add(new Stone(kind, now.day, sister, sister));
        return now.stones.size() - 1;
    }

    int sin(int sin, int sister) {
        int i = sin < 0 || sin > 5 || !told(sister) ? -1 : gone(now.stones, sin, sister);
        if (i >= 0) {
            step();
            now.stones = moved(now.stones, i, 6, now.stones.get(i).whose);
        }
        return i;
    }

    int pass(int kind, int from, int to) {
        if (!told(from) || !told(to) || from == to || veilOf(now.stones, to).size() == 8) {
            return -1;
        }
        for (int i : veilOf(now.stones, from)) {
            if (now.stones.get(i).kind == kind) {
                step();
                now.stones = moved(now.stones, i, to, to);
                return i;
            }
        }
        return -1;
    }

    int forgive(int stone) {
        if (stone < 0 || stone >= now.stones.size() || now.stones.get(stone).where != 6) {
            return -1;
        }
        int whose = now.stones.get(stone).whose;
        if (veilOf(now.stones, whose).size() == 8) {
            return -1;
        }
        step();
        now.stones = moved(now.stones, stone, whose, whose);
        return whose;
    }

    int later(int days) {
        if (days < 1 || days > 99 || now.day + days > 999) {
            return -1;
        }
        for (int i = 0; i < days; i++) {
            step();
            now.day++;
        }
        return now.day;
    }

    int played(int text) {
        if (text < 0 || text >= now.texts.size()) {
            return -2;
        }
        List<String[]> clauses = now.texts.get(text).clauses;
        for (int i = 0; i < clauses.size(); i++) {
            String[] c = clauses.get(i);
            int[] n = new int[4];
            for (int j = 1; j < c.length; j++) {
                n[j] = Integer.parseInt(c[j]);
            }
            int answer = switch (c[0]) {
                case "vow" -> vow(n[1], n[2]);
                case "sin" -> sin(n[1], n[2]);
                case "pass" -> pass(n[1], n[2], n[3]);
                case "forgive" -> forgive(n[1]);
                case "wait" -> later(n[1]);
                default -> 0;
            };
            if (answer == -1) {
                return i;
            }
        }
        return -1;
    }

    int storm(int seed, int n) {
        if (seed < 0 || seed > 9999 || n < 1 || n > 60 || now.sisters == 0) {
            return -1;
        }
        step();
        List<Step> steps = new ArrayList<>(now.steps);
        long x = seed * 8L + 3;
        int sins = 0;
        for (int i = 0; i < n; i++) {
            int sister = (int) (x % now.sisters);
            x = (x * 167 + 71) % 30047;
            sins += sin((int) (x % 6), sister) >= 0 ? 1 : 0;
            x = (x * 167 + 71) % 30047;
        }
        now.steps = steps;
        return sins;
    }

    int undo() {
        if (now.steps.isEmpty()) {
            return -1;
        }
        Step last = now.steps.remove(now.steps.size() - 1);
        now.stones = new ArrayList<>(last.stones);
        now.day = last.day;
        return now.steps.size();
    }

    int stone(int stone, int what) {
        if (stone < 0 || stone >= now.stones.size()) {
            return -1;
        }
        Stone s = now.stones.get(stone);
        return switch (what) {
            case 0 -> s.kind;
            case 1 -> s.sewn;
            case 2 -> s.where;
            case 3 -> s.whose;
            case 4 -> weight(now.stones, stone);
            default -> -1;
        };
    }

    private static int bits(Iterable<Integer> numbers) {
        int bits = 0;
        for (int i : numbers) {
            bits |= 1 << i;
        }
        return bits;
    }

    int veil(int sister, int what) {
        if (!told(sister) || what < 0 || what > 1) {
            return -1;
        }
        return what == 0 ? weightOf(now.stones, sister) : bits(veilOf(now.stones, sister));
    }

    private int spreadOf(List<Stone> stones) {
        TreeSet<Integer> weights = new TreeSet<>();
        for (int i = 0; i < now.sisters; i++) {
            weights.add(weightOf(stones, i));
        }
        return weights.isEmpty() ? 0 : weights.last() - weights.first();
    }

    int spread() {
        return spreadOf(now.stones);
    }

    int level(int bound) {
        List<Integer> gravel = veilOf(now.stones, 6);
        if (bound < 0 || bound > 999 || gravel.size() > 12) {
            return -1;
        }
        List<Integer> sets = new ArrayList<>();
        int all = bits(gravel);
        for (int set = all;; set = set - 1 & all) {
            sets.add(set);
            if (set == 0) {
                break;
            }
        }
        sets.sort(Comparator.<Integer>comparingInt(Integer::bitCount).thenComparingInt(set -> set));
        for (int set : sets) {
            List<Stone> after = now.stones;
            for (int i : gravel) {
                after = (set >> i & 1) == 0 ? after : moved(after, i, after.get(i).whose, after.get(i).whose);
            }
            boolean room = true;
            for (int i = 0; i < now.sisters; i++) {
                room &= veilOf(after, i).size() <= 8;
            }
            if (room && spreadOf(after) <= bound) {
                return set;
            }
        }
        return -1;
    }

    private void orders(List<Integer> sofar, List<List<Integer>> all) {
        if (sofar.size() == now.sisters) {
            all.add(new ArrayList<>(sofar));
        }
        for (int i = 0; i < now.sisters; i++) {
            if (!sofar.contains(i)) {
                sofar.add(i);
                orders(sofar, all);
                sofar.remove(sofar.size() - 1);
            }
        }
    }

    int procession(int i) {
        if (i < -1 || i >= now.sisters) {
            return -2;
        }
        List<List<Integer>> all = new ArrayList<>();
        orders(new ArrayList<>(), all);
        int[] weights = new int[6];
        for (int sister = 0; sister < now.sisters; sister++) {
            weights[sister] = weightOf(now.stones, sister);
        }
        List<Integer> best = null;
        int least = Integer.MAX_VALUE;
        for (List<Integer> order : all) {
            int greatest = 0;
            for (int j = 1; j < order.size(); j++) {
                greatest = Math.max(greatest, Math.abs(weights[order.get(j)] - weights[order.get(j - 1)]));
            }
            if (greatest < least) {
                least = greatest;
                best = order;
            }
        }
        return i == -1 ? least : best.get(i);
    }

    private record Way(List<Stone> stones, List<Integer> sins) {
    }

    int light(int sister, int bound, int i) {
        if (!told(sister) || bound < 0 || bound > 999 || i < -1) {
            return -1;
        }
        ArrayDeque<Way> ways = new ArrayDeque<>(List.of(new Way(now.stones, List.of())));
        Set<Integer> seen = new HashSet<>();
        while (!ways.isEmpty()) {
            Way way = ways.remove();
            if (weightOf(way.stones, sister) <= bound) {
                return i == -1 ? way.sins.size() : i < way.sins.size() ? way.sins.get(i) : -1;
            }
            for (int sin = 0; sin < 6; sin++) {
                int stone = gone(way.stones, sin, sister);
                if (stone >= 0) {
                    List<Stone> after = moved(way.stones, stone, 6, sister);
                    List<Integer> sins = new ArrayList<>(way.sins);
                    sins.add(sin);
                    if (seen.add(bits(veilOf(after, sister)))) {
                        ways.add(new Way(after, sins));
                    }
                }
            }
        }
        return -1;
    }

    private void rows(List<Stone> stones, int sister, int n, List<Integer> sins, List<Way> all) {
        if (n == 0) {
            all.add(new Way(stones, sins));
            return;
        }
        for (int sin = 0; sin < 6; sin++) {
            int stone = gone(stones, sin, sister);
            if (stone >= 0) {
                List<Integer> more = new ArrayList<>(sins);
                more.add(sin);
                rows(moved(stones, stone, 6, sister), sister, n - 1, more, all);
            }
        }
    }

    int done(int sister, int w, int n, boolean sure) {
        if (!told(sister) || w < 0 || w > 999 || n < 0 || n > 4) {
            return -1;
        }
        List<Way> all = new ArrayList<>();
        rows(now.stones, sister, n, List.of(), all);
        all.removeIf(way -> weightOf(way.stones, sister) != w);
        if (!sure) {
            return all.size();
        }
        Set<Integer> inEach = new TreeSet<>(all.isEmpty() ? List.of() : Arrays.asList(0, 1, 2, 3, 4, 5));
        all.forEach(way -> inEach.retainAll(way.sins));
        return bits(inEach);
    }

    int tell(int one, int other, int is) {
        if (!told(one) || !told(other) || one == other || Math.abs((long) is) > 1 || now.told.size() == 12) {
            return -1;
        }
        now.told.add(new Told(one, other, is));
        return now.told.size();
    }

    int hush() {
        int count = now.told.size();
        now.told.clear();
        return count;
    }

    private int tells(int text, int one, int other) {
        int ruling = now.ruling;
        now.ruling = text;
        int sign = Integer.signum(weightOf(now.stones, one) - weightOf(now.stones, other));
        now.ruling = ruling;
        return sign;
    }

    private List<Integer> fitting() {
        List<Integer> fit = new ArrayList<>();
        for (int i = 0; i < now.texts.size(); i++) {
            int text = i;
            if (now.told.stream().allMatch(t -> tells(text, t.one, t.other) == t.is)) {
                fit.add(i);
            }
        }
        return fit;
    }

    int fits() {
        return bits(fitting());
    }

    int next() {
        List<Integer> fit = fitting();
        int best = -1;
        int fewest = 5;
        for (int pair = 0; pair < 36 && !fit.isEmpty(); pair++) {
            int one = pair / 6;
            int other = pair % 6;
            if (one < other && other < now.sisters) {
                int[] groups = new int[3];
                fit.forEach(text -> groups[tells(text, one, other) + 1]++);
                int most = Arrays.stream(groups).max().getAsInt();
                if (most < fewest) {
                    fewest = most;
                    best = pair;
                }
            }
        }
        return best;
    }

    int image() {
        image = now.copy();
        return now.day;
    }

    int back() {
        now = image.copy();
        return now.day;
    }

    int about(int what) {
        return switch (what) {
            case 0 -> now.sisters;
            case 1 -> now.stones.size();
            case 2 -> veilOf(now.stones, 6).size();
            case 3 -> now.day;
            case 4 -> now.texts.size();
            case 5 -> now.ruling;
            case 6 -> now.steps.size();
            case 7 -> now.told.size();
            case 8 -> tape.length();
            default -> -2;
        };
    }
}
