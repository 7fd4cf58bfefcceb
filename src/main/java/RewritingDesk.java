/**
 * A desk for term rewriting: rules with variables, normal forms from the inside outwards with
 * arithmetic and an operator whose order does not matter, and the critical pairs of the rules.
 *
 * A token is held as the long that at() answers, its kind times KIND plus its value as 32 bits
 * without sign, and a term as its tokens in prefix notation. So a symbol's token is its number,
 * and a token from NAME on is a variable or a whole.
 */
public final class RewritingDesk {
    public static final int OK = 0, SYNTAX = 1, LONG = 2, LARGE = 3, BAD = -1, NONE = -2;

    private static final int SYMBOL = 0, NUMBER = 1, VARIABLE = 2, WHOLE = 3;
    private static final int SYMBOLS = 12, FIRST_WITH_ONE = 4, FIRST_WITH_TWO = 7;
    private static final int UNORDERED = 9, SUM = 10, PRODUCT = 11;
    private static final long KIND = 4294967296L, VALUE = 4294967295L, NAME = VARIABLE * KIND;

    /** The greatest length of a draft and the greatest SIZE. */
    private static final int MOST = 30;
    /** One token more than may be, so that a term too large can be told from one that just fits. */
    private static final int SHEET = 31;
    private static final int RULES = 8;
    private static final int LIMIT = 60;
    private static final int MOST_NINES = 4, WAYS = 16;
    /** Variables 0..3 of a rule and its wholes 0..3; or the variables of two rules. */
    private static final int VARIABLES = 4, NAMES = 8;
    private static final int RIGHTS = RULES * MOST, LEFTS = RULES * WAYS * MOST;
    /** Above the 30 + 60 * 30 tokens that a term and its 60 instances can bring in all. */
    private static final int DEEP = 2048;
    private static final int JOINT = MOST + MOST;
    /** No way down through two rules and their bound variables is longer than their tokens. */
    private static final int STACK = 128;
    /** A term, and in it the terms of at most all variables, each inside the one before. */
    private static final int NESTED = 1 + NAMES;
    private static final int ALL = 0, JOINED = 1, OPEN = 2, UNKNOWN = 3, VERDICTS = 4;
    private static final int OPEN_FACTS = 3;
    /** Far above the turns that any loop with this bound can need. */
    private static final int ENOUGH = 10000000;

    private final long[] draft = new long[MOST];
    private int drafted;
    private int faultPlace = -1;
    private int reportedSteps;
    private final long[] result = new long[MOST];
    private int resultSize;

    /** LEFT of each rule, once for each way to exchange arguments, in the order of the ways. */
    private final long[] lefts = new long[LEFTS];
    private final int[] leftSize = new int[RULES];
    /** How many ways a rule has; 0 for an absent rule. */
    private final int[] ways = new int[RULES];
    private final long[] rights = new long[RIGHTS];
    private final int[] rightSize = new int[RULES];

    /** A term on its way: an instance, the term to be brought to normal form, or two arguments. */
    private final long[] sheet = new long[SHEET];
    private int sheetSize;

    /** Tokens that the normal form has still to read, the next one last. */
    private final long[] waiting = new long[DEEP];
    private int waitingSize;
    /** Normal forms, each behind the symbol whose argument it is. */
    private final long[] built = new long[DEEP];
    private int builtSize;
    /** Terms in `built` that aren't finished: where each begins, and how many arguments it lacks. */
    private final int[] unfinishedStart = new int[DEEP];
    private final int[] unfinishedLacks = new int[DEEP];
    private int unfinished;
    private int taken;
    private final long[] kept = new long[MOST];
    private int keptSize;

    /** The part of `built` that the latest match puts for each variable and whole. */
    private final int[] matchStart = new int[NAMES];
    private final int[] matchEnd = new int[NAMES];

    /** Rules i and j of a critical pair, those of j from MOST on, with variables 4..7. */
    private final long[] joint = new long[JOINT];
    /** Where in `joint` the term stands that is put for each variable; -1 if none is. */
    private final int[] unified = new int[NAMES];
    private final int[] oneStack = new int[STACK];
    private final int[] otherStack = new int[STACK];
    private int stacked;
    private final int[] nestedAt = new int[NESTED];
    private final int[] nestedEnd = new int[NESTED];
    /** The variables that are left, counted as they come in the PEAK; -1 before that. */
    private final int[] rank = new int[NAMES];
    private int ranked;

    private final int[] pairCount = new int[VERDICTS];
    private final int[] firstOpen = new int[OPEN_FACTS];
    private boolean surveyed;

    public RewritingDesk() {
    }

    public boolean token(int kind, int value) {
        if (kind < SYMBOL || kind > WHOLE || drafted >= MOST) {
            return false;
        }
        if (kind == SYMBOL && (value < 0 || value >= SYMBOLS)) {
            return false;
        }
        if (kind >= VARIABLE && (value < 0 || value >= VARIABLES)) {
            return false;
        }
        draft[drafted] = kind * KIND + (value & VALUE);
        drafted++;
        return true;
    }

    public int wipe() {
        int removed = drafted;
        drafted = 0;
        return removed;
    }

    public int rule(int r) {
        if (r < 0 || r >= RULES) {
            return BAD;
        }
        int fault = faultOf(2, true);
        if (fault < 0) {
            storeRule(r);
            surveyed = false;
        } else {
            faultPlace = fault;
        }
        drafted = 0;
        return fault < 0 ? OK : SYNTAX;
    }

    public boolean drop(int r) {
        if (r < 0 || r >= RULES || ways[r] == 0) {
            return false;
        }
        ways[r] = 0;
        surveyed = false;
        return true;
    }

    public int reduce() {
        resultSize = 0;
        int fault = faultOf(1, false);
        if (fault >= 0) {
            faultPlace = fault;
            return SYNTAX;
        }
        takeToSheet(draft, 0, drafted);
        taken = 0;
        int code = normalForm();
        reportedSteps = taken;
        if (code == OK) {
            for (int k = 0; k < builtSize && k < MOST; k++) {
                result[k] = built[k];
            }
            resultSize = builtSize;
        }
        return code;
    }

    public int equal() {
        resultSize = 0;
        int fault = faultOf(2, false);
        if (fault >= 0) {
            faultPlace = fault;
            return -SYNTAX;
        }
        int middle = endOf(draft, 0, drafted);
        takeToSheet(draft, 0, middle);
        taken = 0;
        int code = normalForm();
        if (code == OK) {
            keepBuilt();
            takeToSheet(draft, middle, drafted);
            code = normalForm();
        }
        reportedSteps = taken;
        if (code != OK) {
            return -code;
        }
        return isBuiltAsKept() ? 1 : 0;
    }

    public int place() {
        return faultPlace;
    }

    public int steps() {
        return reportedSteps;
    }

    public int size() {
        return resultSize;
    }

    public long at(int k) {
        return k < 0 || k >= resultSize || k >= MOST ? -1 : result[k];
    }

    public int matching() {
        int fault = faultOf(1, false);
        if (fault >= 0) {
            return BAD;
        }
        for (int k = 0; k < drafted; k++) {
            built[k] = draft[k];
        }
        builtSize = drafted;
        return ruleFor(0);
    }

    public int pairs(int what) {
        if (what < ALL || what > UNKNOWN) {
            return BAD;
        }
        survey();
        return pairCount[what];
    }

    public int open(int what) {
        if (what < 0 || what >= OPEN_FACTS) {
            return BAD;
        }
        survey();
        return firstOpen[what];
    }

    // ---- The draft and the rules

    /**
     * Answers where the draft first fails to be so many terms, -1 if it doesn't. In a rule, names
     * in LEFT are free and RIGHT may have just these; elsewhere no name has been seen before, so
     * that the same test refuses each.
     */
    private int faultOf(int terms, boolean isRule) {
        int complete = 0;
        int lacks = 1;
        int nines = 0;
        int seen = 0;
        for (int k = 0; k < drafted; k++) {
            long token = draft[k];
            boolean inLeft = isRule && complete == 0;
            if (complete == terms || inLeft && k == 0 && token >= KIND) {
                return k;
            }
            if (token >= NAME) {
                int bit = 1 << slotOf(token);
                seen |= inLeft ? bit : 0;
                if ((seen & bit) == 0) {
                    return k;
                }
            }
            nines += inLeft && token == UNORDERED ? 1 : 0;
            if (nines > MOST_NINES) {
                return k;
            }
            lacks += argumentsOf(token) - 1;
            if (lacks == 0) {
                complete++;
                lacks = 1;
            }
        }
        return complete == terms ? -1 : drafted;
    }

    private void storeRule(int r) {
        int end = endOf(draft, 0, drafted);
        int count = 1;
        for (int k = 0; k < end; k++) {
            count = draft[k] == UNORDERED && count < WAYS ? count * 2 : count;
        }
        for (int way = 0; way < count; way++) {
            storeWay(r, way, end);
        }
        for (int k = end; k < drafted; k++) {
            rights[r * MOST + k - end] = draft[k];
        }
        leftSize[r] = end;
        rightSize[r] = drafted - end;
        ways[r] = count;
    }

    /**
     * The bits of a way, the highest for the first symbol 9, say where it exchanges; so ways in the
     * order of their numbers are in the order of the document. Going backwards, an exchange moves
     * only what has been dealt with.
     */
    private void storeWay(int r, int way, int end) {
        int from = (r * WAYS + way) * MOST;
        for (int k = 0; k < end; k++) {
            lefts[from + k] = draft[k];
        }
        int bits = way;
        for (int k = end - 1; k >= 0; k--) {
            if (draft[k] == UNORDERED) {
                if ((bits & 1) == 1) {
                    exchangeArguments(lefts, from + k, from + end);
                }
                bits >>= 1;
            }
        }
    }

    // ---- Terms

    private static int argumentsOf(long token) {
        if (token < FIRST_WITH_ONE || token >= SYMBOLS) {
            return 0;
        }
        return token < FIRST_WITH_TWO ? 1 : 2;
    }

    /** Variables have slots 0..3, wholes 4..7. */
    private static int slotOf(long token) {
        return token < WHOLE * KIND ? (int) (token & 3) : VARIABLES + (int) (token & 3);
    }

    /** Doesn't ask argumentsOf, since it stands at the end of the deepest calls. */
    private static int endOf(long[] tokens, int start, int limit) {
        int lacks = 1;
        int end = start;
        for (; end < limit && lacks > 0; end++) {
            if (tokens[end] < FIRST_WITH_ONE || tokens[end] >= SYMBOLS) {
                lacks--;
            } else if (tokens[end] >= FIRST_WITH_TWO) {
                lacks++;
            }
        }
        return end;
    }

    private void write(long token) {
        if (sheetSize < SHEET) {
            sheet[sheetSize] = token;
            sheetSize++;
        }
    }

    private void takeToSheet(long[] tokens, int from, int to) {
        sheetSize = 0;
        for (int k = from; k < to; k++) {
            write(tokens[k]);
        }
    }

    private void exchangeArguments(long[] tokens, int start, int limit) {
        int middle = endOf(tokens, start + 1, limit);
        int end = endOf(tokens, middle, limit);
        sheetSize = 0;
        for (int k = middle; k < end; k++) {
            write(tokens[k]);
        }
        for (int k = start + 1; k < middle; k++) {
            write(tokens[k]);
        }
        for (int k = 0; k < sheetSize && start + 1 + k < end; k++) {
            tokens[start + 1 + k] = sheet[k];
        }
    }

    /**
     * The ORDER of two terms in `built`: as a term's symbol tells how many arguments follow, the
     * first tokens that differ head parts at the same place of both.
     */
    private boolean comesBefore(int one, int other) {
        for (int k = 0; one + k < builtSize && other + k < builtSize; k++) {
            if (built[one + k] != built[other + k]) {
                long oneKey = orderKey(built[one + k]);
                long otherKey = orderKey(built[other + k]);
                return oneKey < otherKey;
            }
        }
        return false;
    }

    /** Numbers by their sign, before symbols, before the variables left in a critical pair. */
    private static long orderKey(long token) {
        return token >= KIND && token < NAME ? (int) token : token + KIND;
    }

    // ---- Matching

    private int ruleFor(int start) {
        for (int r = 0; r < RULES; r++) {
            for (int way = 0; way < ways[r]; way++) {
                if (matches(r, way, start)) {
                    return r;
                }
            }
        }
        return NONE;
    }

    private boolean matches(int r, int way, int start) {
        int from = (r * WAYS + way) * MOST;
        for (int slot = 0; slot < NAMES; slot++) {
            matchStart[slot] = -1;
        }
        int next = start;
        for (int p = from; p < from + leftSize[r]; p++) {
            long token = lefts[p];
            if (next >= builtSize) {
                return false;
            }
            if (token < NAME) {
                if (built[next] != token) {
                    return false;
                }
                next++;
            } else {
                boolean isWhole = token >= WHOLE * KIND;
                if (isWhole && built[next] >>> 32 != NUMBER) {
                    return false;
                }
                int slot = slotOf(token);
                int end = endOf(built, next, builtSize);
                if (!bind(slot, next, end)) {
                    return false;
                }
                next = end;
            }
        }
        return true;
    }

    /** A variable or whole that has a term already must find the same one again. */
    private boolean bind(int slot, int start, int end) {
        int bound = matchStart[slot];
        if (bound < 0) {
            matchStart[slot] = start;
            matchEnd[slot] = end;
            return true;
        }
        if (matchEnd[slot] - bound != end - start) {
            return false;
        }
        for (int k = 0; k < end - start; k++) {
            if (built[bound + k] != built[start + k]) {
                return false;
            }
        }
        return true;
    }

    // ---- The normal form

    /** Of the term on the sheet: leaves it as all of `built`, and counts its STEPS on in `taken`. */
    private int normalForm() {
        waitingSize = 0;
        builtSize = 0;
        unfinished = 0;
        putSheetInLine();
        for (int n = 0; n < ENOUGH && unfinished + waitingSize > 0; n++) {
            if (unfinished == 0 || unfinishedLacks[unfinished - 1] > 0) {
                readToken();
                continue;
            }
            int start = unfinishedStart[unfinished - 1];
            if (builtSize - start > MOST) {
                return LARGE;
            }
            orderArguments(start);
            boolean isSum = isArithmetic(start);
            int r = isSum ? NONE : ruleFor(start);
            if (!isSum && r < 0) {
                finishTerm();
                continue;
            }
            taken++;
            if (taken > LIMIT) {
                return LONG;
            }
            if (isSum) {
                calculate(start);
                finishTerm();
                continue;
            }
            writeInstance(r);
            if (sheetSize > MOST) {
                return LARGE;
            }
            // The instance is read anew in the term's place, which still lacks it.
            builtSize = start;
            unfinished--;
            putSheetInLine();
        }
        return OK;
    }

    private void putSheetInLine() {
        for (int k = sheetSize - 1; k >= 0 && waitingSize < DEEP; k--) {
            waiting[waitingSize] = sheet[k];
            waitingSize++;
        }
    }

    private void readToken() {
        if (waitingSize == 0 || builtSize >= DEEP || unfinished >= DEEP) {
            return;
        }
        waitingSize--;
        long token = waiting[waitingSize];
        unfinishedStart[unfinished] = builtSize;
        unfinishedLacks[unfinished] = argumentsOf(token);
        unfinished++;
        built[builtSize] = token;
        builtSize++;
    }

    private void finishTerm() {
        unfinished--;
        if (unfinished > 0) {
            unfinishedLacks[unfinished - 1]--;
        }
    }

    private void orderArguments(int start) {
        if (built[start] != UNORDERED) {
            return;
        }
        int second = endOf(built, start + 1, builtSize);
        if (comesBefore(second, start + 1)) {
            exchangeArguments(built, start, builtSize);
        }
    }

    /** The term is the last one in `built`, so that two arguments of one token end it. */
    private boolean isArithmetic(int start) {
        if (built[start] != SUM && built[start] != PRODUCT || builtSize != start + 3) {
            return false;
        }
        return built[start + 1] >>> 32 == NUMBER && built[start + 2] >>> 32 == NUMBER;
    }

    private void calculate(int start) {
        int one = (int) built[start + 1];
        int other = (int) built[start + 2];
        int value = built[start] == SUM ? one + other : one * other;
        built[start] = KIND + (value & VALUE);
        builtSize = start + 1;
    }

    private void writeInstance(int r) {
        sheetSize = 0;
        for (int k = 0; k < rightSize[r]; k++) {
            long token = rights[r * MOST + k];
            if (token < NAME) {
                write(token);
                continue;
            }
            int slot = slotOf(token);
            for (int b = matchStart[slot]; b >= 0 && b < matchEnd[slot]; b++) {
                write(built[b]);
            }
        }
    }

    private void keepBuilt() {
        keptSize = 0;
        for (int k = 0; k < builtSize && k < MOST; k++) {
            kept[k] = built[k];
            keptSize++;
        }
    }

    private boolean isBuiltAsKept() {
        if (keptSize != builtSize) {
            return false;
        }
        for (int k = 0; k < keptSize; k++) {
            if (kept[k] != built[k]) {
                return false;
            }
        }
        return true;
    }

    // ---- Critical pairs

    /** Counts the pairs of the rules as they are; what it finds holds until a rule changes. */
    private void survey() {
        if (surveyed) {
            return;
        }
        forgetPairs();
        for (int n = 0; n < RULES * RULES * MOST; n++) {
            int i = n / (RULES * MOST);
            int j = n / MOST % RULES;
            int p = n % MOST;
            if (!isPairPlace(i, j, p)) {
                continue;
            }
            layOut(i, 0, 0);
            layOut(j, MOST, VARIABLES);
            if (!unify(p, MOST)) {
                continue;
            }
            boolean known = isPeakSmall(i);
            if (known) {
                sheetSize = 0;
                expand(leftSize[i], leftSize[i] + rightSize[i]);
                taken = 0;
                known = sheetSize <= MOST && normalForm() == OK;
                keepBuilt();
            }
            if (known) {
                writeOtherSide(i, j, p);
                taken = 0;
                known = sheetSize <= MOST && normalForm() == OK;
            }
            int verdict = UNKNOWN;
            if (known) {
                verdict = isBuiltAsKept() ? JOINED : OPEN;
            }
            count(verdict, i, j, p);
        }
        surveyed = true;
    }

    private void forgetPairs() {
        for (int what = 0; what < VERDICTS; what++) {
            pairCount[what] = 0;
        }
        for (int fact = 0; fact < OPEN_FACTS; fact++) {
            firstOpen[fact] = NONE;
        }
    }

    private void count(int verdict, int i, int j, int p) {
        pairCount[ALL]++;
        pairCount[verdict]++;
        if (verdict == OPEN && firstOpen[0] == NONE) {
            firstOpen[0] = i;
            firstOpen[1] = j;
            firstOpen[2] = p;
        }
    }

    private boolean isPairPlace(int i, int j, int p) {
        if (p >= leftSize[i] || p == 0 && i == j || lefts[i * WAYS * MOST + p] >= NAME) {
            return false;
        }
        return isPlain(i) && isPlain(j);
    }

    private boolean isPlain(int r) {
        boolean plain = ways[r] > 0;
        for (int k = 0; k < leftSize[r]; k++) {
            long token = lefts[r * WAYS * MOST + k];
            plain &= token < UNORDERED || token >>> 32 == VARIABLE;
        }
        for (int k = 0; k < rightSize[r]; k++) {
            long token = rights[r * MOST + k];
            plain &= token < UNORDERED || token >>> 32 == VARIABLE;
        }
        return plain;
    }

    /** Lays a plain rule into `joint`, LEFT and behind it RIGHT, its variables counted on. */
    private void layOut(int r, int from, int shift) {
        int left = leftSize[r];
        for (int k = 0; k < left + rightSize[r] && k < MOST; k++) {
            long token = k < left ? lefts[r * WAYS * MOST + k] : rights[r * MOST + k - left];
            joint[from + k] = token < NAME ? token : token + shift;
        }
    }

    /** Looks for the most general terms that make two parts of `joint` the same. */
    private boolean unify(int part, int otherPart) {
        for (int v = 0; v < NAMES; v++) {
            unified[v] = -1;
        }
        stacked = 0;
        stack(part, otherPart);
        for (int n = 0; n < ENOUGH && stacked > 0; n++) {
            stacked--;
            int one = followed(oneStack[stacked]);
            int other = followed(otherStack[stacked]);
            long token = joint[one];
            long otherToken = joint[other];
            if (token == otherToken) {
                stackArguments(one, other);
            } else if (token >= NAME) {
                if (!put(token, other)) {
                    return false;
                }
            } else if (otherToken < NAME || !put(otherToken, one)) {
                return false;
            }
        }
        return true;
    }

    private void stack(int one, int other) {
        if (stacked < STACK) {
            oneStack[stacked] = one;
            otherStack[stacked] = other;
            stacked++;
        }
    }

    private void stackArguments(int one, int other) {
        int arguments = argumentsOf(joint[one]);
        if (one == other || arguments == 0) {
            return;
        }
        if (arguments == 2) {
            int oneSecond = endOf(joint, one + 1, JOINT);
            int otherSecond = endOf(joint, other + 1, JOINT);
            stack(oneSecond, otherSecond);
        }
        stack(one + 1, other + 1);
    }

    /** The term that stands for a variable, if there is one, may be a variable again. */
    private int followed(int start) {
        int at = start;
        for (int n = 0; n < NAMES && joint[at] >= NAME; n++) {
            int next = unified[(int) (joint[at] & 7)];
            at = next < 0 ? at : next;
        }
        return at;
    }

    /** Puts a term for a variable that has none, unless the variable is in it. */
    private boolean put(long variable, int term) {
        int v = (int) (variable & 7);
        int inside = variablesIn(term);
        for (int n = 0; n < NAMES; n++) {
            for (int w = 0; w < NAMES; w++) {
                if ((inside >> w & 1) == 1 && unified[w] >= 0) {
                    inside |= variablesIn(unified[w]);
                }
            }
        }
        unified[v] = term;
        return (inside >> v & 1) == 0;
    }

    private int variablesIn(int term) {
        int end = endOf(joint, term, JOINT);
        int inside = 0;
        for (int k = term; k < end; k++) {
            inside |= joint[k] < NAME ? 0 : 1 << (int) (joint[k] & 7);
        }
        return inside;
    }

    /** The PEAK is written for its SIZE and for the order of the variables left. */
    private boolean isPeakSmall(int i) {
        for (int v = 0; v < NAMES; v++) {
            rank[v] = -1;
        }
        ranked = 0;
        sheetSize = 0;
        expand(0, leftSize[i]);
        return sheetSize <= MOST;
    }

    private void writeOtherSide(int i, int j, int p) {
        int right = MOST + leftSize[j];
        int end = endOf(joint, p, leftSize[i]);
        sheetSize = 0;
        expand(0, p);
        expand(right, right + rightSize[j]);
        expand(end, leftSize[i]);
    }

    /** Writes tokens of `joint` with the terms put for their variables, until the sheet is full. */
    private void expand(int from, int to) {
        int nested = 1;
        nestedAt[0] = from;
        nestedEnd[0] = to;
        for (int n = 0; n < ENOUGH && nested > 0 && sheetSize < SHEET; n++) {
            int at = nestedAt[nested - 1];
            if (at >= nestedEnd[nested - 1] || at >= JOINT) {
                nested--;
                continue;
            }
            nestedAt[nested - 1]++;
            long token = joint[at];
            int term = token < NAME ? -1 : unified[(int) (token & 7)];
            if (term >= 0 && nested < NESTED) {
                nestedAt[nested] = term;
                nestedEnd[nested] = endOf(joint, term, JOINT);
                nested++;
            } else {
                long shown = token < NAME ? token : nameInPeak(token);
                write(shown);
            }
        }
    }

    private long nameInPeak(long variable) {
        int v = (int) (variable & 7);
        if (rank[v] < 0) {
            rank[v] = ranked;
            ranked++;
        }
        return NAME + rank[v];
    }
}
