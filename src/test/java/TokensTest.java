/** Promises 3 and 4: addToken and tokenCount. */
public final class TokensTest {
    private static final Check check = new Check();
    private static final int MIN = Integer.MIN_VALUE;
    private static final int MAX = Integer.MAX_VALUE;

    public static void main(String[] args) {
        kinds();
        bounds();
        meaninglessValues();
        fullList();
        refusedTokenChangesNothing();
        acceptedTokenMakesNotReady();
        countChangesNothing();
        check.end();
    }

    private static void one(int kind, int v, boolean want) {
        HomeContexts x = new HomeContexts();
        check.due("addToken(" + kind + ", " + v + ")", x.addToken(kind, v), want);
        check.due("tokenCount after it", x.tokenCount(), want ? 1 : 0);
    }

    private static void kinds() {
        for (int kind = 0; kind <= 16; kind++) {
            one(kind, 0, true);
        }
        for (int kind : new int[] {-1, 17, -2, 18, 32, 256, MIN, MAX}) {
            one(kind, 0, false);
        }
    }

    private static void bounds() {
        upTo(HomeContexts.T_VAR, 3);
        upTo(HomeContexts.T_SET, 3);
        upTo(HomeContexts.T_GLOB, 7);
        upTo(HomeContexts.T_GSET, 7);
        upTo(HomeContexts.T_CALL, 7);
    }

    private static void upTo(int kind, int last) {
        for (int v = 0; v <= last; v++) {
            one(kind, v, true);
        }
        for (int v : new int[] {-1, last + 1, last + 2, 128, MIN, MAX}) {
            one(kind, v, false);
        }
    }

    private static void meaninglessValues() {
        int[] kinds = {0, 5, 6, 7, 8, 9, 10, 11, 12, 13, 14, 16};
        for (int kind : kinds) {
            for (int v : new int[] {MIN, -1, 3, 4, 8, 99, MAX}) {
                one(kind, v, true);
            }
        }
        HomeContexts x = new HomeContexts();
        int[] tokens = {11, 77, 12, -5, 0, 4, 10, MAX, 9, MIN, 0, 1, 0, 2, 14, 6, 13, 31, 16, 8, 5, 9, 0, 6, 0, 7};
        for (int i = 0; i < tokens.length; i += 2) {
            check.due("addToken with a v that has no meaning", x.addToken(tokens[i], tokens[i + 1]), true);
        }
        check.due("compile with such v", x.compile(), HomeContexts.C_OK);
        check.due("run with such v", x.run(0, 9), HomeContexts.OUT_RESULT);
        check.due("result with such v", x.resultValue(), 6);
        check.due("printed with such v", x.printValue(0), 4);
    }

    private static void fullList() {
        HomeContexts x = new HomeContexts();
        for (int i = 0; i < 128; i++) {
            check.due("tokenCount before token " + i, x.tokenCount(), i);
            check.due("addToken " + i, x.addToken(HomeContexts.T_NUM, i), true);
        }
        check.due("tokenCount of a full list", x.tokenCount(), 128);
        for (int kind = -1; kind <= 17; kind++) {
            check.due("addToken to a full list", x.addToken(kind, 0), false);
        }
        check.due("tokenCount still", x.tokenCount(), 128);
    }

    private static void refusedTokenChangesNothing() {
        HomeContexts x = check.ran("SEQ GSET:1 8 PRINT VAR:0", 5, 10, HomeContexts.OUT_RESULT);
        String before = Check.allAnswers(x);
        int[][] refused = {{-1, 0}, {17, 0}, {1, 4}, {2, -1}, {3, 8}, {4, -1}, {15, 8}, {15, -1}};
        for (int[] token : refused) {
            check.due("refused token", x.addToken(token[0], token[1]), false);
            check.same("a refused token", Check.allAnswers(x), before);
        }
        check.due("run after refused tokens", x.run(5, 10), HomeContexts.OUT_RESULT);
        check.same("the run after refused tokens", Check.allAnswers(x), before);
        refusedByFullList();
    }

    private static void refusedByFullList() {
        HomeContexts x = new HomeContexts();
        // A method of 127 tokens and a method of one token.
        check.add(x, Check.sum(6) + "9");
        check.due("tokenCount of a full program", x.tokenCount(), 128);
        check.due("compile of a full program", x.compile(), HomeContexts.C_OK);
        check.due("run of a full program", x.run(2, 3), HomeContexts.OUT_RESULT);
        check.due("result of a full program", x.resultValue(), 64);
        String before = Check.allAnswers(x);
        check.due("addToken to a full program", x.addToken(HomeContexts.T_NUM, 0), false);
        check.same("a token refused by a full program", Check.allAnswers(x), before);
    }

    private static void acceptedTokenMakesNotReady() {
        HomeContexts x = check.ran("SEQ GSET:1 8 PRINT CALL:1 VAR:0 VAR:0", 5, 10, HomeContexts.OUT_RESULT);
        String before = Check.runAnswers(x);
        check.due("methodCount before a token", x.methodCount(), 2);
        check.due("addToken to a ready program", x.addToken(HomeContexts.T_NUM, 1), true);
        check.due("methodCount after a token", x.methodCount(), 0);
        check.due("fuelLeft after a token", x.fuelLeft(), 9);
        check.same("a token", Check.runAnswers(x), before);
        check.due("run after a token", x.run(5, 10), HomeContexts.OUT_NOT_READY);
        check.same("the run after a token", Check.runAnswers(x), before);
        check.due("compile after a token", x.compile(), HomeContexts.C_OK);
        check.due("methodCount after compile", x.methodCount(), 3);
    }

    private static void countChangesNothing() {
        HomeContexts x = check.ran("PRINT VAR:0", 5, 10, HomeContexts.OUT_RESULT);
        String before = Check.allAnswers(x);
        check.due("tokenCount", x.tokenCount(), 2);
        check.due("tokenCount again", x.tokenCount(), 2);
        check.same("tokenCount", Check.allAnswers(x), before);
        check.due("run after tokenCount", x.run(5, 10), HomeContexts.OUT_RESULT);
    }
}
