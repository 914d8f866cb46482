/**
 * Compiles and runs a small prefix language of methods and blocks, in which a
 * block's return leaves the method activation that made the block (its home).
 */
public final class HomeContexts {
    public static final int T_NUM = 0, T_VAR = 1, T_SET = 2, T_GLOB = 3,
        T_GSET = 4, T_PARAM = 5, T_ADD = 6, T_SUB = 7, T_MUL = 8, T_LESS = 9,
        T_IF = 10, T_SEQ = 11, T_PRINT = 12, T_BLOCK = 13, T_VALUE = 14,
        T_CALL = 15, T_RET = 16;
    public static final int K_INT = 0, K_BLOCK = 1;
    public static final int C_OK = 0, C_EMPTY = 1, C_INCOMPLETE = 2,
        C_METHODS = 3, C_DEEP = 4, C_PARAM = 5, C_CALL = 6;
    public static final int OUT_NOT_READY = -1, OUT_NONE = 0, OUT_RESULT = 1,
        OUT_CANNOT_RETURN = 2, OUT_FUEL = 3, OUT_TYPE = 4, OUT_DEPTH = 5;
    public static final int MAX_TOKENS = 128, MAX_METHODS = 8, MAX_DEPTH = 8,
        MAX_ACTIVE = 16, MAX_PRINTS = 32, MAX_FUEL = 255;

    private static final int LOCALS = 4;
    private static final int GLOBALS = 8;
    // Every method activation but the first costs a unit of fuel, so a run
    // never makes more homes than this, and none has to be used again.
    private static final int MAX_HOMES = MAX_FUEL + 1;
    private static final int ALL_LOCALS = MAX_HOMES * LOCALS;
    // The pending tokens of one activation lie on one path down its tree.
    private static final int MAX_PENDING = MAX_ACTIVE * MAX_DEPTH;
    // An activation begins and resumes each token of its body a few times at
    // most, so a run of 256 activations stays far below this.
    private static final int MAX_STEPS = 1000000;
    private static final int ENDED = -1;
    private static final int NO_KIND = -1;

    // A value is kept in one long, so that a block carries its home wherever
    // it is stored: the int or the token index in the low 32 bits, then one
    // bit for the kind, then the home of a block.
    private static final int KIND_SHIFT = 32;
    private static final int HOME_SHIFT = 33;
    private static final long LOW_BITS = 0xFFFFFFFFL;

    private final int[] tokenKind = new int[MAX_TOKENS];
    private final int[] tokenValue = new int[MAX_TOKENS];
    private int tokens;

    // The token behind the whole expression that starts at a token.
    private final int[] after = new int[MAX_TOKENS];
    private final int[] depth = new int[MAX_TOKENS];
    private final boolean[] inBlock = new boolean[MAX_TOKENS];
    private final int[] methodStart = new int[MAX_METHODS];
    // The program is ready exactly when this is not 0.
    private int methods;

    private int lastOutcome;
    private long result;
    private final long[] printed = new long[MAX_PRINTS];
    private int prints;
    private final long[] globals = new long[GLOBALS];
    private int fuelCounter;
    private int deepest;

    private final int[] activeHome = new int[MAX_ACTIVE];
    private final long[] activeParam = new long[MAX_ACTIVE];
    private final int[] activeBase = new int[MAX_ACTIVE];
    private int active;

    private final long[] locals = new long[ALL_LOCALS];
    // Where a home stands among the active activations, or ENDED.
    private final int[] homePosition = new int[MAX_HOMES];
    private int homes;

    private final int[] pendingToken = new int[MAX_PENDING];
    private final boolean[] pendingHasLeft = new boolean[MAX_PENDING];
    private final long[] pendingLeft = new long[MAX_PENDING];
    private int pending;

    private int nextToken;
    private long value;
    private boolean valueReady;

    public HomeContexts() {
        clear();
    }

    public void clear() {
        tokens = 0;
        methods = 0;
        resetAnswers();
    }

    public boolean addToken(int kind, int v) {
        if (tokens >= MAX_TOKENS || !acceptable(kind, v)) {
            return false;
        }
        tokenKind[tokens] = kind;
        tokenValue[tokens] = v;
        tokens++;
        methods = 0;
        return true;
    }

    public int tokenCount() {
        return tokens;
    }

    public int compile() {
        methods = 0;
        if (tokens == 0) {
            return C_EMPTY;
        }
        if (!linkExpressions()) {
            return C_INCOMPLETE;
        }
        int expressions = placeRoots();
        if (expressions > MAX_METHODS) {
            return C_METHODS;
        }
        placeOperands();
        if (hasDeepToken()) {
            return C_DEEP;
        }
        if (hasParamOutsideBlock()) {
            return C_PARAM;
        }
        if (hasCallBeyond(expressions)) {
            return C_CALL;
        }
        methods = expressions;
        return C_OK;
    }

    public int methodCount() {
        return methods;
    }

    public int run(int arg, int fuel) {
        if (methods == 0) {
            return OUT_NOT_READY;
        }
        resetAnswers();
        fuelCounter = clampFuel(fuel);
        active = 0;
        homes = 0;
        pending = 0;
        long argument = intValue(arg);
        startMethod(0, argument);
        evaluate();
        return lastOutcome;
    }

    public int outcome() {
        return lastOutcome;
    }

    public int resultKind() {
        return kindOf(result);
    }

    public int resultValue() {
        return (int) result;
    }

    public int printCount() {
        return prints;
    }

    public int printKind(int i) {
        return i >= 0 && i < prints ? kindOf(printed[i]) : NO_KIND;
    }

    public int printValue(int i) {
        return i >= 0 && i < prints ? (int) printed[i] : 0;
    }

    public int globalKind(int i) {
        return i >= 0 && i < GLOBALS ? kindOf(globals[i]) : NO_KIND;
    }

    public int globalValue(int i) {
        return i >= 0 && i < GLOBALS ? (int) globals[i] : 0;
    }

    public int fuelLeft() {
        return fuelCounter;
    }

    public int maxDepth() {
        return deepest;
    }

    private void resetAnswers() {
        lastOutcome = OUT_NONE;
        result = 0;
        prints = 0;
        for (int i = 0; i < GLOBALS; i++) {
            globals[i] = 0;
        }
        fuelCounter = 0;
        deepest = 0;
    }

    private static boolean acceptable(int kind, int v) {
        switch (kind) {
            case T_VAR:
            case T_SET:
                return v >= 0 && v < LOCALS;
            case T_GLOB:
            case T_GSET:
                return v >= 0 && v < GLOBALS;
            case T_CALL:
                return v >= 0 && v < MAX_METHODS;
            default:
                return kind >= T_NUM && kind <= T_RET;
        }
    }

    private static int arity(int kind) {
        switch (kind) {
            case T_NUM:
            case T_VAR:
            case T_GLOB:
            case T_PARAM:
                return 0;
            case T_ADD:
            case T_SUB:
            case T_MUL:
            case T_LESS:
            case T_SEQ:
            case T_VALUE:
                return 2;
            case T_IF:
                return 3;
            default:
                return 1;
        }
    }

    private static int clampFuel(int fuel) {
        if (fuel < 0) {
            return 0;
        }
        return fuel > MAX_FUEL ? MAX_FUEL : fuel;
    }

    private static long intValue(int number) {
        return number & LOW_BITS;
    }

    private static long blockValue(int token, int home) {
        return ((long) home << HOME_SHIFT) | (1L << KIND_SHIFT) | token;
    }

    private static int kindOf(long v) {
        return ((v >>> KIND_SHIFT) & 1L) == 0 ? K_INT : K_BLOCK;
    }

    private static int homeOf(long v) {
        return (int) (v >>> HOME_SHIFT);
    }

    // Goes from the last token to the first, so that the end of every operand
    // is known before the token that takes it. Answers false if some token
    // lacks an operand: then the expression around it is unfinished too.
    private boolean linkExpressions() {
        for (int token = tokens - 1; token >= 0; token--) {
            int end = token + 1;
            for (int missing = arity(tokenKind[token]); missing > 0; missing--) {
                if (end >= tokens) {
                    return false;
                }
                end = after[end];
            }
            after[token] = end;
        }
        return true;
    }

    // Answers the number of expressions, which may be above MAX_METHODS.
    private int placeRoots() {
        int expressions = 0;
        int root = 0;
        for (int token = 0; token < tokens; token++) {
            if (token == root) {
                if (expressions < MAX_METHODS) {
                    methodStart[expressions] = token;
                }
                expressions++;
                depth[token] = 1;
                inBlock[token] = false;
                root = after[token];
            }
        }
        return expressions;
    }

    // A token stands before its operands, so it has its own place by the time
    // it gives them theirs.
    private void placeOperands() {
        for (int token = 0; token < tokens; token++) {
            int kind = tokenKind[token];
            int operand = token + 1;
            for (int missing = arity(kind); missing > 0; missing--) {
                depth[operand] = depth[token] + 1;
                inBlock[operand] = inBlock[token] || kind == T_BLOCK;
                operand = after[operand];
            }
        }
    }

    private boolean hasDeepToken() {
        for (int token = 0; token < tokens; token++) {
            if (depth[token] > MAX_DEPTH) {
                return true;
            }
        }
        return false;
    }

    private boolean hasParamOutsideBlock() {
        for (int token = 0; token < tokens; token++) {
            if (tokenKind[token] == T_PARAM && !inBlock[token]) {
                return true;
            }
        }
        return false;
    }

    private boolean hasCallBeyond(int expressions) {
        for (int token = 0; token < tokens; token++) {
            if (tokenKind[token] == T_CALL && tokenValue[token] >= expressions) {
                return true;
            }
        }
        return false;
    }

    // OUT_NONE stands for a run that is still going on.
    private void evaluate() {
        for (int step = 0; step < MAX_STEPS && lastOutcome == OUT_NONE; step++) {
            if (!valueReady) {
                beginToken();
            } else if (pending > activeBase[active - 1]) {
                resumeToken();
            } else {
                returnFrom(active - 1);
            }
        }
    }

    private void goTo(int token) {
        nextToken = token;
        valueReady = false;
    }

    private void beginToken() {
        int token = nextToken;
        int v = tokenValue[token];
        int home = activeHome[active - 1];
        valueReady = true;
        switch (tokenKind[token]) {
            case T_NUM:
                value = intValue(v);
                break;
            case T_VAR:
                value = locals[home * LOCALS + v];
                break;
            case T_GLOB:
                value = globals[v];
                break;
            case T_PARAM:
                value = activeParam[active - 1];
                break;
            case T_BLOCK:
                value = blockValue(token, home);
                break;
            default:
                waitForOperand(token);
                break;
        }
    }

    private void waitForOperand(int token) {
        pendingToken[pending] = token;
        pendingHasLeft[pending] = false;
        pending++;
        goTo(token + 1);
    }

    // Hands the value to the innermost pending token. One that has all it
    // needs is pending no more: the value of SEQ or IF is that of the operand
    // it goes on with.
    private void resumeToken() {
        int top = pending - 1;
        int token = pendingToken[top];
        int kind = tokenKind[token];
        if (needsBoth(kind) && !pendingHasLeft[top]) {
            pendingHasLeft[top] = true;
            pendingLeft[top] = value;
            goTo(after[token + 1]);
            return;
        }
        pending = top;
        switch (kind) {
            case T_IF:
                chooseBranch(token);
                break;
            case T_SEQ:
                goTo(after[token + 1]);
                break;
            case T_SET:
            case T_GSET:
            case T_PRINT:
                storeValue(kind, tokenValue[token]);
                break;
            case T_VALUE:
                startBlock(pendingLeft[top], value);
                break;
            case T_CALL:
                if (mayStart()) {
                    startMethod(tokenValue[token], value);
                }
                break;
            case T_RET:
                returnToHome();
                break;
            default:
                calculate(kind, pendingLeft[top], value);
                break;
        }
    }

    private static boolean needsBoth(int kind) {
        return arity(kind) == 2 && kind != T_SEQ;
    }

    private void chooseBranch(int token) {
        if (kindOf(value) == K_BLOCK) {
            lastOutcome = OUT_TYPE;
            return;
        }
        int whenTrue = after[token + 1];
        int whenFalse = after[whenTrue];
        goTo((int) value != 0 ? whenTrue : whenFalse);
    }

    private void calculate(int kind, long left, long right) {
        if (kindOf(left) == K_BLOCK || kindOf(right) == K_BLOCK) {
            lastOutcome = OUT_TYPE;
            return;
        }
        int a = (int) left;
        int b = (int) right;
        switch (kind) {
            case T_ADD:
                value = intValue(a + b);
                break;
            case T_SUB:
                value = intValue(a - b);
                break;
            case T_MUL:
                value = intValue(a * b);
                break;
            default:
                value = intValue(a < b ? 1 : 0);
                break;
        }
    }

    private void storeValue(int kind, int v) {
        if (kind == T_SET) {
            locals[activeHome[active - 1] * LOCALS + v] = value;
        } else if (kind == T_GSET) {
            globals[v] = value;
        } else if (prints < MAX_PRINTS) {
            printed[prints] = value;
            prints++;
        }
    }

    // The unit is spent before the depth is looked at, and stays spent when the
    // activation is refused.
    private boolean mayStart() {
        if (fuelCounter == 0) {
            lastOutcome = OUT_FUEL;
            return false;
        }
        fuelCounter--;
        if (active == MAX_ACTIVE) {
            lastOutcome = OUT_DEPTH;
            return false;
        }
        return true;
    }

    private void startMethod(int method, long argument) {
        int home = homes;
        homes++;
        homePosition[home] = active;
        int first = home * LOCALS;
        locals[first] = argument;
        for (int i = 1; i < LOCALS; i++) {
            locals[first + i] = 0;
        }
        startActivation(home);
        goTo(methodStart[method]);
    }

    private void startBlock(long block, long argument) {
        if (kindOf(block) == K_INT) {
            lastOutcome = OUT_TYPE;
            return;
        }
        if (mayStart()) {
            activeParam[active] = argument;
            int home = homeOf(block);
            startActivation(home);
            goTo((int) block + 1);
        }
    }

    private void startActivation(int home) {
        activeHome[active] = home;
        activeBase[active] = pending;
        active++;
        if (active > deepest) {
            deepest = active;
        }
    }

    // A method activation is its own home and active, so this serves a return
    // in a method as well as one in a block.
    private void returnToHome() {
        int position = homePosition[activeHome[active - 1]];
        if (position == ENDED) {
            lastOutcome = OUT_CANNOT_RETURN;
        } else {
            returnFrom(position);
        }
    }

    // Ends the activation at a position and all that were started after it;
    // the value then goes to whatever waits below.
    private void returnFrom(int position) {
        for (int ending = active - 1; ending >= position; ending--) {
            int home = activeHome[ending];
            if (homePosition[home] == ending) {
                homePosition[home] = ENDED;
            }
        }
        pending = activeBase[position];
        active = position;
        if (position == 0) {
            result = value;
            lastOutcome = OUT_RESULT;
        }
    }
}
