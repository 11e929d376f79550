public final class StackScheduler {
    public static final int SET = 0;
    public static final int COPY = 1;
    public static final int ADD = 2;
    public static final int SUB = 3;
    public static final int MUL = 4;
    public static final int XOR = 5;
    public static final int LESS = 6;
    public static final int PRINT = 7;
    public static final int IFPOS = 8;
    public static final int ELSE = 9;
    public static final int LOOP = 10;
    public static final int END = 11;
    public static final int BAD = -1;
    public static final int FULL = -2;
    public static final int UNSOUND = -3;

    private static final int VARIABLES = 6;
    private static final int MOST_STATEMENTS = 40;
    private static final int MOST_PASSES = 5;
    private static final int MOST_OPEN = 3;
    private static final int MOST_KEPT = 64;
    // Three loops of 5 inside each other pass 40 statements at most 125 times: 5000 steps.
    private static final int MOST_STEPS = 1000000;

    private final int[] kinds = new int[MOST_STATEMENTS];
    private final int[] firsts = new int[MOST_STATEMENTS];
    private final int[] seconds = new int[MOST_STATEMENTS];
    private final int[] thirds = new int[MOST_STATEMENTS];
    private int statements = 0;

    private final int[] variables = new int[VARIABLES];
    private final int[] kept = new int[MOST_KEPT];
    private int printedValues = 0;

    // An IFPOS has its ELSE, or else its END, as partner; an ELSE and a LOOP have their END;
    // an END has what it closes: a LOOP, an IFPOS, or the ELSE that took the IFPOS's place.
    // Only true after pairAll has answered true, and until the program changes.
    private final int[] partners = new int[MOST_STATEMENTS];
    private final int[] openPlaces = new int[MOST_OPEN];
    private int openCount = 0;

    private final int[] passesLeft = new int[MOST_STATEMENTS];

    public StackScheduler() {
    }

    public int add(int kind, int a, int b, int c) {
        if (statements >= MOST_STATEMENTS) {
            return FULL;
        }
        if (!isStatement(kind, a, b, c)) {
            return BAD;
        }
        kinds[statements] = kind;
        firsts[statements] = a;
        seconds[statements] = b;
        thirds[statements] = c;
        statements++;
        return statements;
    }

    public int retract() {
        if (statements == 0) {
            return BAD;
        }
        statements--;
        return statements;
    }

    public boolean sound() {
        return pairAll();
    }

    public boolean put(int v, int value) {
        if (!isVariable(v)) {
            return false;
        }
        variables[v] = value;
        return true;
    }

    public int run() {
        if (!pairAll()) {
            return UNSOUND;
        }
        printedValues = 0;
        int place = 0;
        for (int step = 0; step < MOST_STEPS && place < statements; step++) {
            place = pass(place);
        }
        return printedValues;
    }

    public int variable(int v) {
        if (!isVariable(v)) {
            return 0;
        }
        return variables[v];
    }

    public int printed() {
        return printedValues;
    }

    public int output(int k) {
        if (k < 0 || k >= printedValues || k >= MOST_KEPT) {
            return 0;
        }
        return kept[k];
    }

    public void clear() {
        statements = 0;
        printedValues = 0;
        for (int v = 0; v < VARIABLES; v++) {
            variables[v] = 0;
        }
    }

    private static boolean isVariable(int v) {
        return v >= 0 && v < VARIABLES;
    }

    private static boolean isStatement(int kind, int a, int b, int c) {
        switch (kind) {
            case SET:
            case PRINT:
            case IFPOS:
                return isVariable(a);
            case COPY:
                return isVariable(a) && isVariable(b);
            case ADD:
            case SUB:
            case MUL:
            case XOR:
            case LESS:
                return isVariable(a) && isVariable(b) && isVariable(c);
            case LOOP:
                return a >= 0 && a <= MOST_PASSES;
            case ELSE:
            case END:
                return true;
            default:
                return false;
        }
    }

    /** Finds every statement's partner; answers whether the program is sound. */
    private boolean pairAll() {
        openCount = 0;
        for (int place = 0; place < statements; place++) {
            if (!pair(place)) {
                return false;
            }
        }
        return openCount == 0;
    }

    private boolean pair(int place) {
        switch (kinds[place]) {
            case IFPOS:
            case LOOP:
                return open(place);
            case ELSE:
                return divide(place);
            case END:
                return close(place);
            default:
                return true;
        }
    }

    private boolean open(int place) {
        if (openCount >= MOST_OPEN) {
            return false;
        }
        openPlaces[openCount] = place;
        openCount++;
        return true;
    }

    private boolean divide(int place) {
        if (openCount == 0) {
            return false;
        }
        int choice = openPlaces[openCount - 1];
        if (kinds[choice] != IFPOS) {
            return false;
        }
        partners[choice] = place;
        // The ELSE stands in for its choice from here on, so that a second ELSE finds no IFPOS.
        openPlaces[openCount - 1] = place;
        return true;
    }

    private boolean close(int place) {
        if (openCount == 0) {
            return false;
        }
        openCount--;
        int opener = openPlaces[openCount];
        partners[opener] = place;
        partners[place] = opener;
        return true;
    }

    /** Does the statement at a place; answers the place to go on at. */
    private int pass(int place) {
        switch (kinds[place]) {
            case PRINT:
                print(variables[firsts[place]]);
                return place + 1;
            case IFPOS:
                return variables[firsts[place]] > 0 ? place + 1 : partners[place] + 1;
            case ELSE:
                // Only the end of the taken first part leads here: the second part is left out.
                return partners[place] + 1;
            case LOOP:
                return beginLoop(place);
            case END:
                return passEnd(place);
            default:
                assign(place);
                return place + 1;
        }
    }

    private void print(int value) {
        if (printedValues < MOST_KEPT) {
            kept[printedValues] = value;
        }
        printedValues++;
    }

    private int beginLoop(int place) {
        passesLeft[place] = firsts[place];
        return passesLeft[place] > 0 ? place + 1 : partners[place] + 1;
    }

    private int passEnd(int place) {
        int opener = partners[place];
        if (kinds[opener] != LOOP) {
            return place + 1;
        }
        passesLeft[opener]--;
        return passesLeft[opener] > 0 ? opener + 1 : place + 1;
    }

    private void assign(int place) {
        int target = firsts[place];
        int second = seconds[place];
        switch (kinds[place]) {
            case SET:
                variables[target] = second;
                break;
            case COPY:
                variables[target] = variables[second];
                break;
            default:
                variables[target] = combine(kinds[place], variables[second], variables[thirds[place]]);
                break;
        }
    }

    private static int combine(int kind, int left, int right) {
        switch (kind) {
            case ADD:
                return left + right;
            case SUB:
                return left - right;
            case MUL:
                return left * right;
            case XOR:
                return left ^ right;
            default:
                return left < right ? 1 : 0;
        }
    }
}
