public final class TernaryCompiler {
    public static final int SET = 0;
    public static final int ADD = 1;
    public static final int SUB = 2;
    public static final int MUL = 3;
    public static final int UP = 4;
    public static final int DOWN = 5;
    public static final int LOW = 6;
    public static final int CASE = 7;
    public static final int ZERO = 8;
    public static final int POS = 9;
    public static final int LOOP = 10;
    public static final int END = 11;
    public static final int PRINT = 12;
    public static final int BAD = -10000;
    public static final int FULL = -10001;
    public static final int UNSOUND = -10002;

    private static final int VARIABLES = 6;
    private static final int STATEMENTS = 40;
    private static final int KEPT = 48;
    private static final int PLACES = 9;
    private static final int DEPTH = 3;
    private static final int SPAN = 19683;
    private static final int LARGEST = 9841;
    private static final int NONE = -1;
    // A statement lies in at most three loops of at most five passes, so it is come to at most 125 times a run.
    private static final int MOST_STEPS = STATEMENTS * 125;

    private final int[] variables = new int[VARIABLES];

    private final int[] kinds = new int[STATEMENTS];
    private final int[] firsts = new int[STATEMENTS];
    private final int[] seconds = new int[STATEMENTS];
    private final int[] thirds = new int[STATEMENTS];
    private int statements = 0;

    private final int[] kept = new int[KEPT];
    private int prints = 0;

    // Written anew by each link(), and to be relied on only after it has answered true.
    private final int[] openAt = new int[DEPTH];
    private final int[] openerOf = new int[STATEMENTS];
    private final int[] endOf = new int[STATEMENTS];
    private final int[] zeroOf = new int[STATEMENTS];
    private final int[] posOf = new int[STATEMENTS];

    private final int[] passesLeft = new int[STATEMENTS];

    public TernaryCompiler() {
    }

    public int add(int kind, int a, int b, int c) {
        if (statements >= STATEMENTS) {
            return FULL;
        }
        if (kind < SET || kind > PRINT) {
            return BAD;
        }
        if (hasFirst(kind) && !isVariable(a)) {
            return BAD;
        }
        if (readsSecond(kind) && !isVariable(b)) {
            return BAD;
        }
        if (readsThird(kind) && !isVariable(c)) {
            return BAD;
        }
        kinds[statements] = kind;
        firsts[statements] = a;
        seconds[statements] = b;
        thirds[statements] = c;
        statements++;
        return statements;
    }

    public int retract() {
        if (statements <= 0) {
            return BAD;
        }
        statements--;
        return statements;
    }

    public boolean sound() {
        return link();
    }

    public boolean put(int v, int value) {
        if (!isVariable(v)) {
            return false;
        }
        variables[v] = wrap(value);
        return true;
    }

    public int run() {
        if (!link()) {
            return UNSOUND;
        }
        prints = 0;
        int at = 0;
        for (int step = 0; step < MOST_STEPS && at < statements; step++) {
            at = pass(at);
        }
        return prints;
    }

    public int variable(int v) {
        if (!isVariable(v)) {
            return BAD;
        }
        return variables[v];
    }

    public int trit(int v, int i) {
        if (!isVariable(v) || i < 0 || i >= PLACES) {
            return BAD;
        }
        int rest = variables[v];
        for (int place = 0; place < i; place++) {
            rest = withoutLowest(rest);
        }
        return lowestTrit(rest);
    }

    public int printed() {
        return prints;
    }

    public int output(int k) {
        if (k < 0 || k >= prints || k >= KEPT) {
            return BAD;
        }
        return kept[k];
    }

    public void clear() {
        statements = 0;
        prints = 0;
        for (int v = 0; v < VARIABLES; v++) {
            variables[v] = 0;
        }
    }

    private static boolean isVariable(int v) {
        return v >= 0 && v < VARIABLES;
    }

    private static boolean hasFirst(int kind) {
        return kind != ZERO && kind != POS && kind != END;
    }

    private static boolean readsSecond(int kind) {
        return kind >= ADD && kind <= LOW;
    }

    private static boolean readsThird(int kind) {
        return kind == ADD || kind == SUB || kind == MUL || kind == LOW;
    }

    private static int wrap(int number) {
        int rest = number % SPAN;
        if (rest > LARGEST) {
            return rest - SPAN;
        }
        if (rest < -LARGEST) {
            return rest + SPAN;
        }
        return rest;
    }

    private static int lowestTrit(int value) {
        int rest = value % 3;
        if (rest == 2) {
            return -1;
        }
        if (rest == -2) {
            return 1;
        }
        return rest;
    }

    private static int withoutLowest(int value) {
        return (value - lowestTrit(value)) / 3;
    }

    private static int lowerTrits(int left, int right) {
        int result = 0;
        int weight = 1;
        for (int place = 0; place < PLACES; place++) {
            int leftTrit = lowestTrit(left);
            int rightTrit = lowestTrit(right);
            result += weight * (leftTrit < rightTrit ? leftTrit : rightTrit);
            left = withoutLowest(left);
            right = withoutLowest(right);
            weight *= 3;
        }
        return result;
    }

    // Answers whether the program is sound. A run jumps by the places noted here, so it need not search for them.
    private boolean link() {
        int depth = 0;
        for (int at = 0; at < statements; at++) {
            int kind = kinds[at];
            if (kind == CASE || kind == LOOP) {
                if (depth >= DEPTH) {
                    return false;
                }
                openAt[depth] = at;
                depth++;
                zeroOf[at] = NONE;
                posOf[at] = NONE;
            } else if (kind == ZERO || kind == POS || kind == END) {
                if (depth <= 0) {
                    return false;
                }
                int opener = openAt[depth - 1];
                openerOf[at] = opener;
                if (kind == END) {
                    endOf[opener] = at;
                    depth--;
                } else if (!beginSection(at, opener)) {
                    return false;
                }
            }
        }
        return depth == 0;
    }

    private boolean beginSection(int at, int opener) {
        // Nothing may begin after POS in the same choice, so one test rules out POS twice and ZERO after POS.
        if (kinds[opener] != CASE || posOf[opener] != NONE) {
            return false;
        }
        if (kinds[at] == POS) {
            posOf[opener] = at;
            return true;
        }
        if (zeroOf[opener] != NONE) {
            return false;
        }
        zeroOf[opener] = at;
        return true;
    }

    // Passes one statement and answers the number of the one to come to next.
    private int pass(int at) {
        switch (kinds[at]) {
            case CASE:
                return chosenSection(at);
            case ZERO:
            case POS:
                // Only the section before runs into a section's beginning, and that one is over.
                return endOf[openerOf[at]] + 1;
            case LOOP:
                return enterLoop(at);
            case END:
                return leaveOrRepeat(at);
            case PRINT:
                print(variables[firsts[at]]);
                return at + 1;
            default:
                variables[firsts[at]] = result(at);
                return at + 1;
        }
    }

    private int chosenSection(int at) {
        int value = variables[firsts[at]];
        if (value < 0) {
            return at + 1;
        }
        int section = value == 0 ? zeroOf[at] : posOf[at];
        if (section == NONE) {
            return endOf[at] + 1;
        }
        return section + 1;
    }

    private int enterLoop(int at) {
        if (firsts[at] == 0) {
            return endOf[at] + 1;
        }
        passesLeft[at] = firsts[at];
        return at + 1;
    }

    private int leaveOrRepeat(int at) {
        int opener = openerOf[at];
        if (kinds[opener] != LOOP) {
            return at + 1;
        }
        passesLeft[opener]--;
        return passesLeft[opener] > 0 ? opener + 1 : at + 1;
    }

    private void print(int value) {
        if (prints < KEPT) {
            kept[prints] = value;
        }
        prints++;
    }

    private int result(int at) {
        int number = seconds[at];
        if (kinds[at] == SET) {
            return wrap(number);
        }
        int left = variables[number];
        if (kinds[at] == UP) {
            return wrap(3 * left);
        }
        if (kinds[at] == DOWN) {
            return withoutLowest(left);
        }
        int right = variables[thirds[at]];
        switch (kinds[at]) {
            case ADD:
                return wrap(left + right);
            case SUB:
                return wrap(left - right);
            case MUL:
                return wrap(left * right);
            default:
                return lowerTrits(left, right);
        }
    }
}
