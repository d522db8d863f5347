/** The weight of the veil: vows sewn as stones into veils, by laws that are told as texts. */
public final class VeilOfStones {
    public static final int NONE = -1;

    /** What played, procession and about answer to wrong inputs: NONE has a meaning of its own in them. */
    private static final int NO_SUCH = -2;

    private static final int MOST_SISTERS = 6;
    private static final int KINDS = 6;
    private static final int MOST_STONES = 30;
    private static final int MOST_IN_VEIL = 8;
    private static final int GRAVEL = 6;
    private static final int MOST_DAYS = 99;
    private static final int LAST_DAY = 999;
    private static final int MOST_BOUND = 999;
    private static final int MOST_TEXTS = 4;
    private static final int MOST_BYTES = 300;
    private static final int MOST_NUMBER = 9999;

    // TOKENS: the words stand in the order of Tape.WORDS, and the names of a law at their end.
    private static final int END = 0;
    private static final int NO_TOKEN = 1;
    private static final int NUMBER = 2;
    private static final int LESS = 3;
    private static final int NOT_MORE = 4;
    private static final int MORE = 5;
    private static final int NOT_LESS = 6;
    private static final int ALIKE = 7;
    private static final int UNLIKE = 8;
    private static final int PLUS = 9;
    private static final int MINUS = 10;
    private static final int TIMES = 11;
    private static final int OVER = 12;
    private static final int OPEN = 13;
    private static final int CLOSE = 14;
    private static final int SEMICOLON = 15;
    private static final int WEIGHS = 16;
    private static final int GOES = 17;
    private static final int VOW = 18;
    private static final int PASS = 19;
    private static final int FORGIVE = 20;
    private static final int WAIT = 21;
    private static final int OF = 22;
    private static final int TO = 23;
    private static final int OR = 24;
    private static final int AND = 25;
    private static final int NOT = 26;
    private static final int KIND = 27;
    private static final int AGE = 28;
    private static final int SISTER = 29;
    private static final int STONE = 30;
    private static final int SIN = 31;
    /** No TOKEN of its own: the - of one ONE, told apart from that between two PRODUCTS. */
    private static final int NEGATE = 32;

    private final Convent now = new Convent();
    private final Convent kept = new Convent();
    private final Laws laws = new Laws();
    private final Tape tape = new Tape();
    private final Reader reader = new Reader();
    private final Leveller leveller = new Leveller();
    private final March march = new March();
    private final Penance penance = new Penance();

    public VeilOfStones() {
    }

    public int sister() {
        if (now.sisters >= MOST_SISTERS) {
            return NONE;
        }
        now.sisters++;
        return now.sisters - 1;
    }

    public int feed(int a, int b, int c, int d, int e) {
        if (!tape.hasRoomFor(20)) {
            return NONE;
        }
        tape.addFour(a);
        tape.addFour(b);
        tape.addFour(c);
        tape.addFour(d);
        tape.addFour(e);
        return tape.length;
    }

    public int end(int n) {
        if (n < 0 || n > tape.length) {
            return NONE;
        }
        tape.length = n;
        return n;
    }

    public int text() {
        // The IMAGE's TEXTS are always the first of those that there are now, so this place is free.
        Script script = laws.scriptAt(now.texts);
        if (script == null) {
            return NONE;
        }
        reader.read(tape, script);
        tape.length = 0;
        if (reader.flaw != 0) {
            return NONE;
        }
        now.texts++;
        return now.texts - 1;
    }

    public int fault(int what) {
        if (what == 0) {
            return reader.flaw;
        }
        return what == 1 ? reader.place : NONE;
    }

    public boolean by(int text) {
        if (text != NONE && !now.hasText(text)) {
            return false;
        }
        now.ruling = text;
        return true;
    }

    public int vow(int kind, int sister) {
        return now.addVow(kind, sister);
    }

    public int sin(int sin, int sister) {
        return now.strip(now.firstToGo(sin, sister, laws));
    }

    public int pass(int kind, int from, int to) {
        return now.passOn(kind, from, to);
    }

    public int forgive(int stone) {
        return now.pardon(stone);
    }

    public int later(int days) {
        return now.letGoBy(days);
    }

    public int played(int text) {
        Script script = laws.scriptAt(text);
        if (script == null || !now.hasText(text)) {
            return NO_SUCH;
        }
        for (int clause = 0; clause < script.clauses; clause++) {
            if (!follow(script, clause)) {
                return clause;
            }
        }
        return NONE;
    }

    /** Does one CLAUSE as by hand: whether it can be. */
    private boolean follow(Script script, int clause) {
        int first = script.part(clause, 1);
        int second = script.part(clause, 2);
        switch (script.part(clause, 0)) {
            case VOW:
                return now.addVow(first, second) != NONE;
            case SIN:
                return now.strip(now.firstToGo(first, second, laws)) != NONE;
            case PASS:
                return now.passOn(first, second, script.part(clause, 3)) != NONE;
            case FORGIVE:
                return now.pardon(first) != NONE;
            case WAIT:
                return now.letGoBy(first) != NONE;
            default:
                return true;
        }
    }

    public int storm(int seed, int n) {
        return now.rage(seed, n, laws);
    }

    public int undo() {
        return now.steps.takeBack(now.stones) ? now.steps.count : NONE;
    }

    public int stone(int stone, int what) {
        if (!now.stones.has(stone)) {
            return NONE;
        }
        switch (what) {
            case 0:
                return now.stones.kindOf(stone);
            case 1:
                return now.stones.sewnOn(stone);
            case 2:
                return now.stones.placeOf(stone);
            case 3:
                return now.stones.ownerOf(stone);
            case 4:
                return laws.weightBy(now.ruling, now.stones, stone);
            default:
                return NONE;
        }
    }

    public int veil(int sister, int what) {
        if (!now.hasSister(sister)) {
            return NONE;
        }
        if (what == 0) {
            laws.weighVeils(now.ruling, now.stones);
            return laws.veilOf(sister);
        }
        return what == 1 ? now.stones.inside(sister) : NONE;
    }

    public int spread() {
        laws.weighVeils(now.ruling, now.stones);
        int least = laws.veilOf(0);
        int greatest = least;
        for (int sister = 1; sister < now.sisters; sister++) {
            least = Math.min(least, laws.veilOf(sister));
            greatest = Math.max(greatest, laws.veilOf(sister));
        }
        return greatest - least;
    }

    public int level(int bound) {
        if (bound < 0 || bound > MOST_BOUND) {
            return NONE;
        }
        boolean few = leveller.look(now, laws);
        return few && leveller.search(now.sisters, bound) ? leveller.found : NONE;
    }

    public int procession(int i) {
        if (i < NONE || i >= now.sisters) {
            return NO_SUCH;
        }
        laws.weighVeils(now.ruling, now.stones);
        march.arrange(laws, now.sisters);
        return i == NONE ? march.least : march.sisterAt(i);
    }

    public int light(int sister, int bound, int i) {
        if (!now.hasSister(sister) || bound < 0 || bound > MOST_BOUND || i < NONE) {
            return NONE;
        }
        penance.look(now, laws, sister);
        int fewest = penance.lighten(bound);
        if (i == NONE) {
            return fewest;
        }
        return i < fewest ? penance.sinAt(i) : NONE;
    }

    public int done(int sister, int w, int n, boolean sure) {
        if (!now.hasSister(sister) || w < 0 || w > MOST_BOUND || n < 0 || n > 4) {
            return NONE;
        }
        penance.look(now, laws, sister);
        penance.guess(w, n);
        return sure ? penance.inAllRows : penance.rows;
    }

    public int tell(int one, int other, int is) {
        if (!now.hasSister(one) || !now.hasSister(other) || one == other || is < -1 || is > 1) {
            return NONE;
        }
        return now.scales.add(one, other, is) ? now.scales.count : NONE;
    }

    public int hush() {
        int told = now.scales.count;
        now.scales.count = 0;
        return told;
    }

    public int fits() {
        now.scales.weigh(now, laws);
        return now.scales.fitting(now.texts);
    }

    public int next() {
        now.scales.weigh(now, laws);
        return now.scales.mostTelling(now.sisters, now.scales.fitting(now.texts));
    }

    public int image() {
        kept.copyFrom(now);
        return now.stones.day();
    }

    public int back() {
        now.copyFrom(kept);
        return now.stones.day();
    }

    public int about(int what) {
        switch (what) {
            case 0:
                return now.sisters;
            case 1:
                return now.stones.count();
            case 2:
                return Integer.bitCount(now.stones.inside(GRAVEL));
            case 3:
                return now.stones.day();
            case 4:
                return now.texts;
            case 5:
                return now.ruling;
            case 6:
                return now.steps.count;
            case 7:
                return now.scales.count;
            case 8:
                return tape.length;
            default:
                return NO_SUCH;
        }
    }

    /** All that an IMAGE holds: two of them are as large as one another, so BACK is a copy. */
    private static final class Convent {
        int sisters = 0;
        int texts = 0;
        int ruling = NONE;
        final Stones stones = new Stones();
        final Steps steps = new Steps();
        final Scales scales = new Scales();

        void copyFrom(Convent other) {
            sisters = other.sisters;
            texts = other.texts;
            ruling = other.ruling;
            stones.copyFrom(other.stones);
            steps.copyFrom(other.steps);
            scales.copyFrom(other.scales);
        }

        boolean hasSister(int sister) {
            return sister >= 0 && sister < sisters;
        }

        boolean hasText(int text) {
            return text >= 0 && text < texts;
        }

        boolean hasRoom(int sister) {
            return Integer.bitCount(stones.inside(sister)) < MOST_IN_VEIL;
        }

        int addVow(int kind, int sister) {
            if (kind < 0 || kind >= KINDS || !hasSister(sister)) {
                return NONE;
            }
            if (stones.count() >= MOST_STONES || !hasRoom(sister)) {
                return NONE;
            }
            steps.keep(stones);
            return stones.sew(kind, sister);
        }

        /** The STONE that a SIN takes out; NONE if it can't be. */
        int firstToGo(int sin, int sister, Laws laws) {
            if (sin < 0 || sin >= KINDS || !hasSister(sister)) {
                return NONE;
            }
            for (int stone = 0; stone < stones.count(); stone++) {
                if (stones.placeOf(stone) == sister && laws.goesBy(ruling, stones, stone, sin)) {
                    return stone;
                }
            }
            return NONE;
        }

        int strip(int stone) {
            if (stone != NONE) {
                steps.keep(stones);
                stones.drop(stone);
            }
            return stone;
        }

        int passOn(int kind, int from, int to) {
            if (!hasSister(from) || !hasSister(to) || from == to || !hasRoom(to)) {
                return NONE;
            }
            for (int stone = 0; stone < stones.count(); stone++) {
                if (stones.placeOf(stone) == from && stones.kindOf(stone) == kind) {
                    steps.keep(stones);
                    stones.give(stone, to);
                    return stone;
                }
            }
            return NONE;
        }

        int pardon(int stone) {
            if (!stones.has(stone) || stones.placeOf(stone) != GRAVEL) {
                return NONE;
            }
            int owner = stones.ownerOf(stone);
            if (!hasRoom(owner)) {
                return NONE;
            }
            steps.keep(stones);
            stones.give(stone, owner);
            return owner;
        }

        int letGoBy(int days) {
            if (days < 1 || days > MOST_DAYS || stones.day() + days > LAST_DAY) {
                return NONE;
            }
            for (int i = 0; i < days; i++) {
                steps.keep(stones);
                stones.passDay();
            }
            return stones.day();
        }

        /** A STORM: how many SINS there were. It is one STEP even if there were none. */
        int rage(int seed, int n, Laws laws) {
            if (seed < 0 || seed > 9999 || n < 1 || n > 60 || sisters <= 0) {
                return NONE;
            }
            steps.keep(stones);
            int sins = 0;
            int x = seed * 8 + 3;
            for (int i = 0; i < n; i++) {
                int sister = x % sisters;
                x = (x * 167 + 71) % 30047;
                int stone = firstToGo(x % KINDS, sister, laws);
                x = (x * 167 + 71) % 30047;
                if (stone != NONE) {
                    stones.drop(stone);
                    sins++;
                }
            }
            return sins;
        }
    }

    /** STONES and DAY in one row of numbers, so that a STEP is kept and taken back by one copy. */
    private static final class Stones {
        static final int WIDTH = 32;
        private static final int COUNT = 30;
        private static final int DAY = 31;
        // A stone is one number: KIND, the DAY on which it was sewn, where it is, whose it was last.
        private static final int SEWN_AT = 3;
        private static final int PLACE_AT = 13;
        private static final int OWNER_AT = 16;

        final int[] row = new int[WIDTH];

        void copyFrom(Stones other) {
            System.arraycopy(other.row, 0, row, 0, WIDTH);
        }

        int count() {
            return row[COUNT];
        }

        int day() {
            return row[DAY];
        }

        void passDay() {
            row[DAY]++;
        }

        boolean has(int stone) {
            return stone >= 0 && stone < MOST_STONES && stone < row[COUNT];
        }

        private int word(int stone) {
            return stone >= 0 && stone < MOST_STONES ? row[stone] : 0;
        }

        int kindOf(int stone) {
            return word(stone) & 7;
        }

        int sewnOn(int stone) {
            return word(stone) >> SEWN_AT & 1023;
        }

        int placeOf(int stone) {
            return word(stone) >> PLACE_AT & 7;
        }

        int ownerOf(int stone) {
            return word(stone) >> OWNER_AT & 7;
        }

        /** STONES (bits) that are in a SISTER's veil, or GRAVEL. */
        int inside(int place) {
            int bits = 0;
            for (int stone = 0; stone < count(); stone++) {
                if (placeOf(stone) == place) {
                    bits |= 1 << stone;
                }
            }
            return bits;
        }

        int sew(int kind, int sister) {
            int stone = count();
            if (stone < 0 || stone >= MOST_STONES) {
                return NONE;
            }
            row[stone] = kind | day() << SEWN_AT | sister << PLACE_AT | sister << OWNER_AT;
            row[COUNT]++;
            return stone;
        }

        void drop(int stone) {
            move(stone, GRAVEL, ownerOf(stone));
        }

        void give(int stone, int sister) {
            move(stone, sister, sister);
        }

        private void move(int stone, int place, int owner) {
            if (has(stone)) {
                row[stone] = kindOf(stone) | sewnOn(stone) << SEWN_AT | place << PLACE_AT | owner << OWNER_AT;
            }
        }
    }

    /** The latest STEPS: the STONES and the DAY as they were ahead of each, in a ring. */
    private static final class Steps {
        private static final int MOST = 30;

        final int[] rows = new int[MOST * Stones.WIDTH];
        int oldest = 0;
        int count = 0;

        void copyFrom(Steps other) {
            System.arraycopy(other.rows, 0, rows, 0, rows.length);
            oldest = other.oldest;
            count = other.count;
        }

        /** Where the STEP stands that so many are kept ahead of. */
        private int placeBehind(int ahead) {
            return Math.floorMod(oldest + ahead, MOST) * Stones.WIDTH;
        }

        void keep(Stones stones) {
            System.arraycopy(stones.row, 0, rows, placeBehind(count), Stones.WIDTH);
            if (count < MOST) {
                count++;
            } else {
                oldest = (oldest + 1) % MOST;
            }
        }

        boolean takeBack(Stones stones) {
            if (count <= 0) {
                return false;
            }
            count--;
            System.arraycopy(rows, placeBehind(count), stones.row, 0, Stones.WIDTH);
            return true;
        }
    }

    /** What the SCALES TOLD, and which TEXTS it fits. */
    private static final class Scales {
        private static final int MOST = 12;

        final int[] ones = new int[MOST];
        final int[] others = new int[MOST];
        final int[] signs = new int[MOST];
        int count = 0;
        /** The weights of all veils by each TEXT, one row of SISTERS behind the other. */
        private final int[] veils = new int[MOST_TEXTS * MOST_SISTERS];

        void copyFrom(Scales other) {
            System.arraycopy(other.ones, 0, ones, 0, MOST);
            System.arraycopy(other.others, 0, others, 0, MOST);
            System.arraycopy(other.signs, 0, signs, 0, MOST);
            count = other.count;
        }

        boolean add(int one, int other, int sign) {
            if (count < 0 || count >= MOST) {
                return false;
            }
            ones[count] = one;
            others[count] = other;
            signs[count] = sign;
            count++;
            return true;
        }

        void weigh(Convent convent, Laws laws) {
            for (int text = 0; text < convent.texts && text < MOST_TEXTS; text++) {
                laws.weighVeils(text, convent.stones);
                for (int sister = 0; sister < MOST_SISTERS; sister++) {
                    veils[text * MOST_SISTERS + sister] = laws.veilOf(sister);
                }
            }
        }

        /** What a TEXT would tell of two SISTERS: 1, -1 or 0. */
        private int signBy(int text, int one, int other) {
            return Integer.compare(veilBy(text, one), veilBy(text, other));
        }

        private int veilBy(int text, int sister) {
            int at = text * MOST_SISTERS + sister;
            return at >= 0 && at < veils.length ? veils[at] : 0;
        }

        int fitting(int texts) {
            int bits = 0;
            for (int text = 0; text < texts && text < MOST_TEXTS; text++) {
                if (fitsAll(text)) {
                    bits |= 1 << text;
                }
            }
            return bits;
        }

        private boolean fitsAll(int text) {
            for (int i = 0; i < count && i < MOST; i++) {
                if (signBy(text, ones[i], others[i]) != signs[i]) {
                    return false;
                }
            }
            return true;
        }

        int mostTelling(int sisters, int texts) {
            int fewest = MOST_TEXTS + 1;
            int pair = NONE;
            if (texts == 0) {
                return NONE;
            }
            for (int lower = 0; lower < sisters; lower++) {
                for (int higher = lower + 1; higher < sisters; higher++) {
                    int most = mostAlike(texts, lower, higher);
                    if (most < fewest) {
                        fewest = most;
                        pair = MOST_SISTERS * lower + higher;
                    }
                }
            }
            return pair;
        }

        private int mostAlike(int texts, int one, int other) {
            int less = 0;
            int alike = 0;
            int more = 0;
            for (int text = 0; text < MOST_TEXTS; text++) {
                if ((texts >> text & 1) == 1) {
                    int sign = signBy(text, one, other);
                    less += sign < 0 ? 1 : 0;
                    alike += sign == 0 ? 1 : 0;
                    more += sign > 0 ? 1 : 0;
                }
            }
            return Math.max(less, Math.max(alike, more));
        }
    }

    /** A TEXT as it was read: its CLAUSES, and its laws with each sign behind what it joins. */
    private static final class Script {
        private static final int MOST_CLAUSES = 24;
        private static final int PARTS = 4;
        private static final int STEEPEST = 32;
        private static final int MOST_VALUE = 1000000;

        int clauses = 0;
        private final int[] parts = new int[MOST_CLAUSES * PARTS];
        /** NUMBERS as they are, other TOKENS turned over (below 0). */
        private final int[] code = new int[MOST_BYTES];
        private int length = 0;
        int weighsFrom = 0;
        int weighsTo = 0;
        int goesFrom = 0;
        int goesTo = 0;
        private final int[] stack = new int[STEEPEST];

        void clear() {
            clauses = 0;
            length = 0;
            weighsFrom = 0;
            weighsTo = 0;
            goesFrom = 0;
            goesTo = 0;
        }

        boolean isFull() {
            return clauses >= MOST_CLAUSES;
        }

        boolean weighs() {
            return weighsTo > weighsFrom;
        }

        boolean goes() {
            return goesTo > goesFrom;
        }

        int part(int clause, int which) {
            int at = clause * PARTS + which;
            return at >= 0 && at < parts.length ? parts[at] : NONE;
        }

        void addClause(int word, int first, int second, int third) {
            int at = clauses * PARTS;
            if (at < 0 || at + 3 >= parts.length) {
                return;
            }
            parts[at] = word;
            parts[at + 1] = first;
            parts[at + 2] = second;
            parts[at + 3] = third;
            clauses++;
        }

        void add(int item) {
            if (length >= 0 && length < code.length) {
                code[length] = item;
                length++;
            }
        }

        void startLaw(int word) {
            addClause(word, NONE, NONE, NONE);
            if (word == WEIGHS) {
                weighsFrom = length;
            } else {
                goesFrom = length;
            }
        }

        void endLaw(int word) {
            if (word == WEIGHS) {
                weighsTo = length;
            } else {
                goesTo = length;
            }
        }

        /** The value of the law from a place of the code to another one. */
        int run(int from, int to, int[] names) {
            int depth = 0;
            for (int i = Math.max(from, 0); i < to && i < code.length; i++) {
                int token = ~code[i];
                int name = token - KIND;
                if (token < 0 || name >= 0 && name < names.length) {
                    if (depth < stack.length) {
                        stack[depth] = token < 0 ? code[i] : names[name];
                        depth++;
                    }
                } else if (token == NEGATE || token == NOT) {
                    if (depth > 0) {
                        int value = stack[depth - 1];
                        stack[depth - 1] = token == NOT ? 1 - value : -value;
                    }
                } else if (depth > 1) {
                    depth--;
                    stack[depth - 1] = joined(token, stack[depth - 1], stack[depth]);
                }
            }
            return depth > 0 ? stack[0] : 0;
        }

        private static int joined(int token, int left, int right) {
            switch (token) {
                case PLUS:
                    return (int) held((long) left + right);
                case MINUS:
                    return (int) held((long) left - right);
                case TIMES:
                    return (int) held((long) left * right);
                case OVER:
                    return right == 0 ? 0 : left / right;
                case AND:
                    return left & right;
                case OR:
                    return left | right;
                default:
                    return isSo(token, left, right) ? 1 : 0;
            }
        }

        private static long held(long value) {
            return value > MOST_VALUE ? MOST_VALUE : value < -MOST_VALUE ? -MOST_VALUE : value;
        }

        private static boolean isSo(int token, int left, int right) {
            switch (token) {
                case LESS:
                    return left < right;
                case NOT_MORE:
                    return left <= right;
                case MORE:
                    return left > right;
                case NOT_LESS:
                    return left >= right;
                case ALIKE:
                    return left == right;
                default:
                    return left != right;
            }
        }
    }

    /** The bytes that were fed, and the TOKEN that a reading of them has come to. */
    private static final class Tape {
        private static final String WORDS =
            "weighs goes vow pass forgive wait of to or and not kind age sister stone sin ";

        private final char[] bytes = new char[MOST_BYTES];
        int length = 0;
        int token = END;
        int tokenAt = 0;
        /** Of a NUMBER; above 9999 it is 10000. */
        int value = 0;
        private int at = 0;

        boolean hasRoomFor(int more) {
            return length + more <= MOST_BYTES;
        }

        void addFour(int four) {
            for (int shift = 24; shift >= 0; shift -= 8) {
                if (length >= 0 && length < bytes.length) {
                    bytes[length] = (char) (four >>> shift & 255);
                    length++;
                }
            }
        }

        void rewind() {
            at = 0;
            advance();
        }

        /** To the TOKEN behind; the END's place is the length. */
        void advance() {
            while (at < length && (byteAt(at) == ' ' || byteAt(at) == '\n')) {
                at++;
            }
            tokenAt = at;
            if (at >= length) {
                token = END;
            } else if (isLetter(byteAt(at))) {
                readWord();
            } else if (isDigit(byteAt(at))) {
                readNumber();
            } else {
                readSign();
            }
        }

        private int byteAt(int i) {
            return i >= 0 && i < length && i < bytes.length ? bytes[i] : 0;
        }

        private static boolean isLetter(int c) {
            return c >= 'a' && c <= 'z' || c >= 'A' && c <= 'Z';
        }

        private static boolean isDigit(int c) {
            return c >= '0' && c <= '9';
        }

        private void readNumber() {
            value = 0;
            while (at < length && isDigit(byteAt(at))) {
                value = Math.min(value * 10 + byteAt(at) - '0', MOST_NUMBER + 1);
                at++;
            }
            token = NUMBER;
        }

        private void readWord() {
            while (at < length && isLetter(byteAt(at))) {
                at++;
            }
            token = NO_TOKEN;
            int word = WEIGHS;
            int next = tokenAt;
            boolean same = true;
            for (int i = 0; i < WORDS.length(); i++) {
                if (WORDS.charAt(i) == ' ') {
                    token = same && next == at ? word : token;
                    word++;
                    next = tokenAt;
                    same = true;
                } else {
                    same = same && next < at && byteAt(next) == WORDS.charAt(i);
                    next++;
                }
            }
        }

        private void readSign() {
            token = signOf(byteAt(at));
            at++;
            if ((token == LESS || token == MORE) && byteAt(at) == '=') {
                token = token == LESS ? NOT_MORE : NOT_LESS;
                at++;
            }
        }

        private static int signOf(int c) {
            switch (c) {
                case '<':
                    return LESS;
                case '>':
                    return MORE;
                case '=':
                    return ALIKE;
                case '#':
                    return UNLIKE;
                case '+':
                    return PLUS;
                case '-':
                    return MINUS;
                case '*':
                    return TIMES;
                case '/':
                    return OVER;
                case '(':
                    return OPEN;
                case ')':
                    return CLOSE;
                case ';':
                    return SEMICOLON;
                default:
                    return NO_TOKEN;
            }
        }
    }

    /** Reads a tape as a TEXT, TOKEN by TOKEN, up to its first FAULT. */
    private static final class Reader {
        private static final int MISPLACED = 1;
        private static final int WRONG_NUMBER = 2;
        private static final int TOO_DEEP = 3;
        private static final int SECOND_LAW = 4;
        private static final int SIN_IN_WEIGHS = 5;
        private static final int TOO_MANY_CLAUSES = 6;
        private static final int MOST_OPEN = 8;
        private static final int STEEPEST = 32;

        /** NONE as long as nothing was read, 0 without a FAULT. */
        int flaw = NONE;
        int place = NONE;
        private boolean hadWeighs = false;
        private boolean hadGoes = false;
        /** Signs that wait for what stands behind them, the innermost last. */
        private final int[] waiting = new int[STEEPEST];
        private int waits = 0;
        /** How many of ( not and - of one ONE wait, and how many ( alone. */
        private int open = 0;
        private int brackets = 0;
        /** Whether this ASK has had its sign between two SUMS. */
        private boolean compared = false;

        void read(Tape tape, Script script) {
            flaw = 0;
            place = NONE;
            hadWeighs = false;
            hadGoes = false;
            script.clear();
            tape.rewind();
            for (int i = 0; i <= MOST_BYTES && flaw == 0 && tape.token != END; i++) {
                int word = tape.token;
                checkStart(tape, script.isFull());
                if (flaw == 0) {
                    tape.advance();
                }
                if (flaw == 0 && (word == WEIGHS || word == GOES)) {
                    readLaw(tape, script, word);
                } else if (flaw == 0) {
                    readDeed(tape, script, word);
                }
            }
        }

        private void blame(Tape tape, int kind) {
            if (flaw == 0) {
                flaw = kind;
                place = tape.tokenAt;
            }
        }

        /** Whether a CLAUSE can begin with this TOKEN: the FAULTS from the least on. */
        private void checkStart(Tape tape, boolean full) {
            int word = tape.token;
            if (word != SIN && (word < WEIGHS || word > WAIT)) {
                blame(tape, MISPLACED);
            } else if (word == WEIGHS && hadWeighs || word == GOES && hadGoes) {
                blame(tape, SECOND_LAW);
            } else if (full) {
                blame(tape, TOO_MANY_CLAUSES);
            }
            hadWeighs = hadWeighs || word == WEIGHS;
            hadGoes = hadGoes || word == GOES;
        }

        private void readDeed(Tape tape, Script script, int word) {
            int first;
            int second = NONE;
            int third = NONE;
            if (word == FORGIVE) {
                first = readNumber(tape, 0, MOST_STONES - 1);
            } else if (word == WAIT) {
                first = readNumber(tape, 1, MOST_DAYS);
            } else {
                first = readNumber(tape, 0, KINDS - 1);
                expect(tape, OF);
                second = readNumber(tape, 0, MOST_SISTERS - 1);
            }
            if (word == PASS) {
                expect(tape, TO);
                third = readNumber(tape, 0, MOST_SISTERS - 1);
            }
            expect(tape, SEMICOLON);
            script.addClause(word, first, second, third);
        }

        private void expect(Tape tape, int token) {
            if (tape.token != token) {
                blame(tape, MISPLACED);
            }
            if (flaw == 0) {
                tape.advance();
            }
        }

        private int readNumber(Tape tape, int least, int most) {
            int value = tape.value;
            if (tape.token != NUMBER) {
                blame(tape, MISPLACED);
            } else if (value < least || value > most) {
                blame(tape, WRONG_NUMBER);
            }
            if (flaw == 0) {
                tape.advance();
            }
            return value;
        }

        /** SUM or EITHER up to behind its ; where a ONE is due or, behind it, what can follow it. */
        private void readLaw(Tape tape, Script script, int law) {
            boolean due = true;
            boolean ended = false;
            waits = 0;
            open = 0;
            brackets = 0;
            compared = false;
            script.startLaw(law);
            for (int i = 0; i <= MOST_BYTES && flaw == 0 && !ended; i++) {
                if (due) {
                    due = readStart(tape, script, law);
                } else {
                    due = tape.token != CLOSE;
                    ended = tape.token == SEMICOLON;
                    readSign(tape, script, law);
                }
                if (flaw == 0) {
                    tape.advance();
                }
            }
            script.endLaw(law);
        }

        /** A TOKEN where a ONE is due: whether it is due yet behind it. */
        private boolean readStart(Tape tape, Script script, int law) {
            int token = tape.token;
            if (token == NUMBER) {
                if (tape.value > MOST_NUMBER) {
                    blame(tape, WRONG_NUMBER);
                }
                script.add(tape.value);
                return false;
            }
            if (token >= KIND && token <= SIN) {
                if (token == SIN && law == WEIGHS) {
                    blame(tape, SIN_IN_WEIGHS);
                }
                script.add(~token);
                return false;
            }
            if (token == OPEN || token == MINUS || token == NOT && law == GOES && startsAsk()) {
                if (open >= MOST_OPEN) {
                    blame(tape, TOO_DEEP);
                }
                open++;
                brackets += token == OPEN ? 1 : 0;
                await(token == MINUS ? NEGATE : token);
                return true;
            }
            blame(tape, MISPLACED);
            return true;
        }

        private boolean startsAsk() {
            int last = lastWaiting();
            return last == END || last == OR || last == AND || last == NOT;
        }

        /** A TOKEN behind a ONE. */
        private void readSign(Tape tape, Script script, int law) {
            int token = tape.token;
            if (!canFollow(token, law)) {
                blame(tape, MISPLACED);
                return;
            }
            settle(script, rank(token));
            if (token == CLOSE) {
                drop();
            } else if (token != SEMICOLON) {
                await(token);
            }
            if (token == OR || token == AND) {
                compared = false;
            } else if (isComparison(token)) {
                compared = true;
            }
        }

        private boolean canFollow(int token, int law) {
            if (token >= PLUS && token <= OVER) {
                return true;
            }
            if (brackets > 0) {
                return token == CLOSE;
            }
            if (law == WEIGHS) {
                return token == SEMICOLON;
            }
            if (compared) {
                return token == OR || token == AND || token == SEMICOLON;
            }
            return isComparison(token);
        }

        private static boolean isComparison(int token) {
            return token >= LESS && token <= UNLIKE;
        }

        /** The higher, the closer a sign holds what it joins. ( holds off all, ) and ; end all. */
        private static int rank(int token) {
            switch (token) {
                case OPEN:
                    return 0;
                case OR:
                    return 2;
                case AND:
                    return 3;
                case NOT:
                    return 4;
                case PLUS:
                case MINUS:
                    return 6;
                case TIMES:
                case OVER:
                    return 7;
                case NEGATE:
                    return 8;
                default:
                    return isComparison(token) ? 5 : 1;
            }
        }

        /** Signs that wait and hold as close as this, or closer, have all that they join. */
        private void settle(Script script, int rank) {
            for (int i = 0; i < STEEPEST && waits > 0 && rank(lastWaiting()) >= rank; i++) {
                script.add(~lastWaiting());
                drop();
            }
        }

        private int lastWaiting() {
            return waits > 0 && waits <= waiting.length ? waiting[waits - 1] : END;
        }

        private void await(int sign) {
            if (waits >= 0 && waits < waiting.length) {
                waiting[waits] = sign;
                waits++;
            }
        }

        private void drop() {
            int sign = lastWaiting();
            if (sign == OPEN || sign == NOT || sign == NEGATE) {
                open--;
            }
            if (sign == OPEN) {
                brackets--;
            }
            if (waits > 0) {
                waits--;
            }
        }
    }

    /** What STONES weigh, and which go, by a TEXT or by none. */
    private static final class Laws {
        private static final int MOST_WEIGHT = 99;
        private static final int SIN_NAME = 4;

        private final Script[] scripts = new Script[MOST_TEXTS];
        /** What the names of a law are now: kind, age, sister, stone, sin. */
        private final int[] names = new int[SIN_NAME + 1];
        private final int[] veils = new int[MOST_SISTERS];

        Laws() {
            for (int i = 0; i < MOST_TEXTS; i++) {
                scripts[i] = new Script();
            }
        }

        Script scriptAt(int text) {
            return text >= 0 && text < MOST_TEXTS ? scripts[text] : null;
        }

        private void nameStone(Stones stones, int stone) {
            names[0] = stones.kindOf(stone);
            names[1] = stones.day() - stones.sewnOn(stone);
            names[2] = stones.ownerOf(stone);
            names[3] = stone;
        }

        int weightBy(int text, Stones stones, int stone) {
            Script script = scriptAt(text);
            if (script == null || !script.weighs()) {
                return stones.kindOf(stone) + 1;
            }
            nameStone(stones, stone);
            return Math.max(0, Math.min(MOST_WEIGHT, script.run(script.weighsFrom, script.weighsTo, names)));
        }

        boolean goesBy(int text, Stones stones, int stone, int sin) {
            Script script = scriptAt(text);
            if (script == null || !script.goes()) {
                return stones.kindOf(stone) == sin;
            }
            nameStone(stones, stone);
            names[SIN_NAME] = sin;
            return script.run(script.goesFrom, script.goesTo, names) != 0;
        }

        /** Weighs all veils by a TEXT, for veilOf. */
        void weighVeils(int text, Stones stones) {
            for (int sister = 0; sister < MOST_SISTERS; sister++) {
                veils[sister] = 0;
            }
            for (int stone = 0; stone < stones.count(); stone++) {
                int place = stones.placeOf(stone);
                if (place >= 0 && place < MOST_SISTERS) {
                    veils[place] += weightBy(text, stones, stone);
                }
            }
        }

        int veilOf(int sister) {
            return sister >= 0 && sister < MOST_SISTERS ? veils[sister] : 0;
        }
    }

    /** LEVEL: the sets of GRAVEL from the lowest on, each built from the one ahead of it. */
    private static final class Leveller {
        private static final int MOST_GRAVEL = 12;

        int found = 0;
        private int gravel = 0;
        private final int[] stoneAt = new int[MOST_GRAVEL];
        private final int[] ownerAt = new int[MOST_GRAVEL];
        private final int[] weightAt = new int[MOST_GRAVEL];
        private final int[] veils = new int[MOST_SISTERS];
        private final int[] sizes = new int[MOST_SISTERS];

        /** Whether the GRAVEL is few enough to go through all its sets. */
        boolean look(Convent convent, Laws laws) {
            Stones stones = convent.stones;
            gravel = 0;
            for (int stone = 0; stone < stones.count(); stone++) {
                if (stones.placeOf(stone) == GRAVEL) {
                    if (gravel >= MOST_GRAVEL) {
                        return false;
                    }
                    stoneAt[gravel] = stone;
                    ownerAt[gravel] = stones.ownerOf(stone);
                    weightAt[gravel] = laws.weightBy(convent.ruling, stones, stone);
                    gravel++;
                }
            }
            laws.weighVeils(convent.ruling, stones);
            for (int sister = 0; sister < MOST_SISTERS; sister++) {
                veils[sister] = laws.veilOf(sister);
                sizes[sister] = Integer.bitCount(stones.inside(sister));
            }
            return true;
        }

        boolean search(int sisters, int bound) {
            int fewest = MOST_GRAVEL + 1;
            for (int set = 0; set < 1 << gravel; set++) {
                turn(set);
                if (Integer.bitCount(set) < fewest && isLevel(sisters, bound)) {
                    fewest = Integer.bitCount(set);
                    found = bitsOf(set);
                }
            }
            return fewest <= MOST_GRAVEL;
        }

        /** From the set ahead of this one to this one. */
        private void turn(int set) {
            int turned = set == 0 ? 0 : set ^ set - 1;
            for (int i = 0; i < gravel && i < MOST_GRAVEL && turned >> i != 0; i++) {
                int owner = ownerAt[i];
                if (owner >= 0 && owner < MOST_SISTERS) {
                    boolean comes = (set >> i & 1) == 1;
                    veils[owner] += comes ? weightAt[i] : -weightAt[i];
                    sizes[owner] += comes ? 1 : -1;
                }
            }
        }

        private boolean isLevel(int sisters, int bound) {
            int least = veils[0];
            int greatest = least;
            for (int sister = 0; sister < sisters && sister < MOST_SISTERS; sister++) {
                least = Math.min(least, veils[sister]);
                greatest = Math.max(greatest, veils[sister]);
                if (sizes[sister] > MOST_IN_VEIL || greatest - least > bound) {
                    return false;
                }
            }
            return true;
        }

        private int bitsOf(int set) {
            int bits = 0;
            for (int i = 0; i < gravel && i < MOST_GRAVEL; i++) {
                if ((set >> i & 1) == 1) {
                    bits |= 1 << stoneAt[i];
                }
            }
            return bits;
        }
    }

    /** PROCESSION: all orders of the SISTERS, from the lowest on. */
    private static final class March {
        private static final int ALL_ORDERS = 720;
        private static final int TOO_MUCH = 1000000;

        /** The greatest unlikeness in the best order. */
        int least = 0;
        private int sisters = 0;
        private final int[] veils = new int[MOST_SISTERS];
        private final int[] order = new int[MOST_SISTERS];
        private final int[] best = new int[MOST_SISTERS];

        void arrange(Laws laws, int howMany) {
            sisters = Math.max(0, Math.min(howMany, MOST_SISTERS));
            for (int sister = 0; sister < sisters; sister++) {
                veils[sister] = laws.veilOf(sister);
                order[sister] = sister;
            }
            least = TOO_MUCH;
            boolean more = true;
            for (int i = 0; i < ALL_ORDERS && more; i++) {
                int step = greatestStep();
                if (step < least) {
                    least = step;
                    System.arraycopy(order, 0, best, 0, MOST_SISTERS);
                }
                more = turn();
            }
        }

        int sisterAt(int i) {
            return i >= 0 && i < sisters && i < MOST_SISTERS ? best[i] : NO_SUCH;
        }

        /** Of this order; one that steps no less than the best is not gone through to its end. */
        private int greatestStep() {
            int greatest = 0;
            for (int i = 1; i < sisters && greatest < least; i++) {
                greatest = Math.max(greatest, Math.abs(veilAt(i) - veilAt(i - 1)));
            }
            return greatest;
        }

        private int orderAt(int i) {
            return i >= 0 && i < MOST_SISTERS ? order[i] : 0;
        }

        private int veilAt(int i) {
            int sister = orderAt(i);
            return sister >= 0 && sister < MOST_SISTERS ? veils[sister] : 0;
        }

        /** To the next higher order: whether there is one. */
        private boolean turn() {
            int rising = sisters - 2;
            while (rising >= 0 && orderAt(rising) > orderAt(rising + 1)) {
                rising--;
            }
            if (rising < 0) {
                return false;
            }
            int higher = sisters - 1;
            while (higher > rising && orderAt(higher) < orderAt(rising)) {
                higher--;
            }
            swap(rising, higher);
            int low = rising + 1;
            for (int high = sisters - 1; low < high; high--) {
                swap(low, high);
                low++;
            }
            return true;
        }

        private void swap(int i, int j) {
            if (i >= 0 && i < MOST_SISTERS && j >= 0 && j < MOST_SISTERS) {
                int sister = order[i];
                order[i] = order[j];
                order[j] = sister;
            }
        }
    }

    /** LIGHT and DONE: one veil's STONES as bits 0 .. 7, from the lowest STONE on. */
    private static final class Penance {
        private static final int NEVER = 99;

        int rows = 0;
        int inAllRows = 0;
        private int stones = 0;
        private final int[] weightAt = new int[MOST_IN_VEIL];
        /** For each SIN the STONES that could go. */
        private final int[] goers = new int[KINDS];
        /** For each set of STONES the fewest SINS from it to a light veil. */
        private final int[] fewest = new int[1 << MOST_IN_VEIL];

        void look(Convent convent, Laws laws, int sister) {
            Stones all = convent.stones;
            stones = 0;
            for (int sin = 0; sin < KINDS; sin++) {
                goers[sin] = 0;
            }
            for (int stone = 0; stone < all.count() && stones < MOST_IN_VEIL; stone++) {
                if (all.placeOf(stone) == sister) {
                    weightAt[stones] = laws.weightBy(convent.ruling, all, stone);
                    for (int sin = 0; sin < KINDS; sin++) {
                        if (laws.goesBy(convent.ruling, all, stone, sin)) {
                            goers[sin] |= 1 << stones;
                        }
                    }
                    stones++;
                }
            }
        }

        private int weightOf(int set) {
            int weight = 0;
            for (int i = 0; i < stones && i < MOST_IN_VEIL; i++) {
                if ((set >> i & 1) == 1) {
                    weight += weightAt[i];
                }
            }
            return weight;
        }

        /** The set behind a SIN; NONE if it can't be. */
        private int behind(int set, int sin) {
            int could = set >= 0 && sin >= 0 && sin < KINDS ? set & goers[sin] : 0;
            return could == 0 ? NONE : set ^ (could & -could);
        }

        private int fewestFrom(int set) {
            return set >= 0 && set < fewest.length ? fewest[set] : NEVER;
        }

        /** The fewest SINS to a BOUND, or NONE; a SIN leads to a lower set, so that one is known. */
        int lighten(int bound) {
            int last = (1 << stones) - 1;
            for (int set = 0; set <= last && set < fewest.length; set++) {
                fewest[set] = NEVER;
                if (weightOf(set) <= bound) {
                    fewest[set] = 0;
                }
                for (int sin = 0; sin < KINDS && fewest[set] > 0; sin++) {
                    fewest[set] = Math.min(fewest[set], fewestFrom(behind(set, sin)) + 1);
                }
            }
            return fewestFrom(last) >= NEVER ? NONE : fewestFrom(last);
        }

        /** The i-th SIN on the lowest of the shortest ways that lighten has found. */
        int sinAt(int i) {
            int set = (1 << stones) - 1;
            int sin = NONE;
            for (int step = 0; step <= i && step < MOST_IN_VEIL; step++) {
                sin = lowestSin(set);
                set = behind(set, sin);
            }
            return sin;
        }

        private int lowestSin(int set) {
            for (int sin = 0; sin < KINDS; sin++) {
                if (fewestFrom(behind(set, sin)) + 1 == fewestFrom(set)) {
                    return sin;
                }
            }
            return NONE;
        }

        /** Goes through all rows of n SINS, each row a number whose digits (of six) are the SINS. */
        void guess(int weight, int n) {
            int all = 1;
            for (int i = 0; i < n; i++) {
                all *= KINDS;
            }
            rows = 0;
            inAllRows = (1 << KINDS) - 1;
            for (int row = 0; row < all; row++) {
                int set = (1 << stones) - 1;
                int sins = 0;
                int rest = row;
                for (int i = 0; i < n && set != NONE; i++) {
                    sins |= 1 << rest % KINDS;
                    set = behind(set, rest % KINDS);
                    rest /= KINDS;
                }
                if (set != NONE && weightOf(set) == weight) {
                    rows++;
                    inAllRows &= sins;
                }
            }
            if (rows == 0) {
                inAllRows = 0;
            }
        }
    }
}
