/** The sentences of promises 1 to 4 that name an edge: each has a test of its own. */
public final class TokenEdgesTest {
    private static final Check check = new Check();
    private static final int MIN = Integer.MIN_VALUE;
    private static final int MAX = Integer.MAX_VALUE;

    public static void main(String[] args) {
        newObject();
        clearAlwaysSucceeds();
        clearOfTheGreatest();
        heldAlready();
        unknownKind();
        unknownLocal();
        unknownGlobal();
        unknownMethod();
        refusedChangesNothing();
        acceptedIsAppended();
        acceptedMakesNotReady();
        acceptedKeepsTheRun();
        anyLiteral();
        anyMeaninglessValue();
        count();
        askingTheCount();
        check.end();
    }

    private static void asNew(String what, HomeContexts x) {
        check.cleared(what, x);
        States.same(check, "the state " + what, x, new HomeContexts());
    }

    private static void newObject() {
        check.sentence(1, "A new object is in the same state as after clear()");
        asNew("of a new object", new HomeContexts());
        HomeContexts cleared = new HomeContexts();
        cleared.clear();
        States.same(check, "a new object", new HomeContexts(), cleared);
        HomeContexts x = new HomeContexts();
        check.due("run on a new object", x.run(5, 9), HomeContexts.OUT_NOT_READY);
        check.due("compile on a new object", x.compile(), HomeContexts.C_EMPTY);
    }

    private static void clearAlwaysSucceeds() {
        check.sentence(2, "clear() always succeeds and puts the object into exactly this state");
        for (int state = 0; state < States.COUNT; state++) {
            HomeContexts x = States.make(check, state);
            x.clear();
            asNew("after clear of " + States.name(state), x);
            HomeContexts y = States.make(check, state);
            y.clear();
            y.clear();
            asNew("after clear twice of " + States.name(state), y);
        }
        HomeContexts z = States.full(check);
        z.clear();
        for (int i = 0; i < 128; i++) {
            check.due("addToken " + i + " after clear of a full object", z.addToken(0, i), true);
        }
    }

    /** Clears each answer from as far as it can be from that of a new object. */
    private static void clearOfTheGreatest() {
        check.sentence(2, "result (K_INT, 0), print list empty, globals all (K_INT, 0), fuelLeft() 0, maxDepth() 0");
        HomeContexts x = check.ran("SEQ GSET:7 GSET:6 GSET:5 GSET:4 BLOCK 1 CALL:1 0"
            + " SEQ GSET:3 GSET:2 GSET:1 GSET:0 BLOCK 1 CALL:2 13"
            + " SEQ PRINT PRINT PRINT 1 IF VAR:0 CALL:2 SUB VAR:0 1 -1", 1, 255, HomeContexts.OUT_RESULT);
        check.due("printCount before clear", x.printCount(), 32);
        check.due("maxDepth before clear", x.maxDepth(), 16);
        check.due("resultValue before clear", x.resultValue(), -1);
        for (int i = 0; i < 8; i++) {
            check.due("globalKind(" + i + ") before clear", x.globalKind(i), HomeContexts.K_BLOCK);
        }
        x.clear();
        asNew("after clear of 32 prints and 8 blocks", x);
        HomeContexts y = check.ran("BLOCK 1", 1, 255, HomeContexts.OUT_RESULT);
        check.due("resultKind before clear", y.resultKind(), HomeContexts.K_BLOCK);
        check.due("fuelLeft before clear", y.fuelLeft(), 255);
        y.clear();
        asNew("after clear of a block and all fuel", y);
    }

    private static void heldAlready() {
        check.sentence(3, "128 tokens are already held");
        for (int kind = 0; kind <= 16; kind++) {
            HomeContexts x = new HomeContexts();
            for (int i = 0; i < 128; i++) {
                check.due("addToken(" + kind + ", 0) with " + i + " held", x.addToken(kind, 0), true);
            }
            check.due("addToken(" + kind + ", 0) with 128 held", x.addToken(kind, 0), false);
            check.due("addToken(" + kind + ", 0) again", x.addToken(kind, 0), false);
            check.due("tokenCount", x.tokenCount(), 128);
        }
    }

    private static void one(int kind, int v, boolean want) {
        HomeContexts x = new HomeContexts();
        check.due("addToken(" + kind + ", " + v + ")", x.addToken(kind, v), want);
        check.due("tokenCount after addToken(" + kind + ", " + v + ")", x.tokenCount(), want ? 1 : 0);
    }

    private static void unknownKind() {
        check.sentence(3, "kind is not in 0..16");
        one(0, 0, true);
        one(16, 0, true);
        for (int kind : new int[] {-1, 17, -16, 32, 256, 65536, MIN, MIN + 1, MAX}) {
            one(kind, 0, false);
        }
    }

    /** The edges of 0..last, and numbers that a narrower type would take for one in it. */
    private static void range(int kind, int last) {
        for (int v = 0; v <= last; v++) {
            one(kind, v, true);
        }
        for (int v : new int[] {-1, last + 1, -last, 2 * last + 2, 256, 65536, MIN, MIN + 1, MAX}) {
            one(kind, v, false);
        }
    }

    private static void unknownLocal() {
        check.sentence(3, "kind is T_VAR or T_SET and v is not in 0..3");
        range(HomeContexts.T_VAR, 3);
        range(HomeContexts.T_SET, 3);
    }

    private static void unknownGlobal() {
        check.sentence(3, "kind is T_GLOB or T_GSET and v is not in 0..7");
        range(HomeContexts.T_GLOB, 7);
        range(HomeContexts.T_GSET, 7);
    }

    private static void unknownMethod() {
        check.sentence(3, "kind is T_CALL and v is not in 0..7");
        range(HomeContexts.T_CALL, 7);
    }

    private static void refusedChangesNothing() {
        check.sentence(3, "If any of these conditions holds, it answers false and changes nothing at all");
        int[][] refused = {
            {-1, 0}, {17, 0}, {MIN, 1}, {MAX, 1}, {1, -1}, {1, 4}, {2, -1}, {2, 4}, {3, -1}, {3, 8}, {4, -1},
            {4, 8}, {15, -1}, {15, 8}
        };
        for (int state = 0; state < States.COUNT; state++) {
            for (int[] token : refused) {
                HomeContexts x = States.make(check, state);
                check.due("addToken(" + token[0] + ", " + token[1] + ")", x.addToken(token[0], token[1]), false);
                States.same(check, "a refused token on " + States.name(state), x, States.make(check, state));
            }
        }
        for (int kind = 0; kind <= 16; kind++) {
            HomeContexts x = States.full(check);
            check.due("addToken(" + kind + ", 7) on a full object", x.addToken(kind, 7), false);
            States.same(check, "a token refused by a full object", x, States.full(check));
        }
    }

    /** As the first token, after a refused one, and as the last of 128. */
    private static void acceptedIsAppended() {
        check.sentence(3, "Otherwise it appends (kind, v) at the end of the token list, and it answers true");
        HomeContexts x = new HomeContexts();
        check.due("a refused token", x.addToken(17, 0), false);
        check.due("the first token", x.addToken(HomeContexts.T_SUB, 0), true);
        check.due("a refused token", x.addToken(HomeContexts.T_VAR, 4), false);
        check.due("the second token", x.addToken(HomeContexts.T_NUM, 9), true);
        check.due("a refused token", x.addToken(HomeContexts.T_CALL, 8), false);
        check.due("the third token", x.addToken(HomeContexts.T_NUM, 2), true);
        check.due("tokenCount", x.tokenCount(), 3);
        check.due("compile", x.compile(), HomeContexts.C_OK);
        check.due("run", x.run(0, 0), HomeContexts.OUT_RESULT);
        check.due("resultValue", x.resultValue(), 7);
        HomeContexts full = States.full(check);
        check.due("tokenCount of a full object", full.tokenCount(), 128);
        check.due("resultValue from the last of 128 tokens", full.resultValue(), 2);
    }

    /** The token after a program that is ready, and the last that the list takes. */
    private static void acceptedMakesNotReady() {
        check.sentence(3, "the program becomes not ready (methodCount() becomes 0)");
        HomeContexts x = check.ready("7");
        check.due("addToken to a ready program", x.addToken(HomeContexts.T_NUM, 8), true);
        check.due("methodCount", x.methodCount(), 0);
        check.due("run", x.run(0, 0), HomeContexts.OUT_NOT_READY);
        HomeContexts y = check.ready(Check.sum(6));
        check.due("tokenCount", y.tokenCount(), 127);
        check.due("addToken of the 128th", y.addToken(HomeContexts.T_NUM, 8), true);
        check.due("methodCount after the 128th", y.methodCount(), 0);
        check.due("run after the 128th", y.run(0, 0), HomeContexts.OUT_NOT_READY);
        check.due("compile after the 128th", y.compile(), HomeContexts.C_OK);
        check.due("addToken of the 129th", y.addToken(HomeContexts.T_NUM, 8), false);
        check.due("methodCount after the 129th", y.methodCount(), 2);
        check.due("run after the 129th", y.run(0, 0), HomeContexts.OUT_RESULT);
    }

    private static void acceptedKeepsTheRun() {
        check.sentence(3, "The results of the last run are kept unchanged");
        for (int state = 0; state < States.COUNT - 1; state++) {
            HomeContexts x = States.make(check, state);
            for (int kind = 0; kind <= 16; kind++) {
                String before = Check.runAnswers(x);
                int fuel = x.fuelLeft();
                check.due("addToken(" + kind + ", 0)", x.addToken(kind, 0), true);
                check.same("a token on " + States.name(state), Check.runAnswers(x), before);
                check.due("fuelLeft of " + States.name(state), x.fuelLeft(), fuel);
            }
        }
    }

    private static void anyLiteral() {
        check.sentence(3, "For T_NUM, v may be any int and is the literal");
        for (int v : new int[] {MIN, MIN + 1, -65537, -65536, -256, -129, -1, 0, 1, 128, 255, 65535, MAX - 1, MAX}) {
            HomeContexts x = new HomeContexts();
            check.due("addToken(T_NUM, " + v + ")", x.addToken(HomeContexts.T_NUM, v), true);
            check.due("compile", x.compile(), HomeContexts.C_OK);
            check.due("run", x.run(5, 0), HomeContexts.OUT_RESULT);
            check.due("resultKind of " + v, x.resultKind(), HomeContexts.K_INT);
            check.due("resultValue of " + v, x.resultValue(), v);
        }
    }

    /** The program has all eleven kinds; with any v on them it does what it does with 0. */
    private static void anyMeaninglessValue() {
        check.sentence(3, "For kinds that take no v, any v is accepted; it has no meaning");
        String program = "SEQ PRINT VALUE BLOCK ADD PARAM 1 SUB 9 MUL 2 3 IF LESS 1 2 RET 5 6";
        String want = Check.allAnswers(check.ran(program, 4, 9, HomeContexts.OUT_RESULT));
        boolean[] seen = new boolean[17];
        for (int v : new int[] {MIN, -1, 1, 3, 4, 7, 8, 16, 17, 127, 128, MAX}) {
            HomeContexts x = new HomeContexts();
            for (String word : program.split(" ")) {
                boolean number = word.matches("[0-9]+");
                int kind = number ? HomeContexts.T_NUM : Check.kindOf(word);
                seen[kind] = true;
                check.due("addToken of " + word, x.addToken(kind, number ? Integer.parseInt(word) : v), true);
            }
            check.due("compile with v " + v, x.compile(), HomeContexts.C_OK);
            check.due("run with v " + v, x.run(4, 9), HomeContexts.OUT_RESULT);
            check.same("v " + v, Check.allAnswers(x), want);
        }
        for (int kind : new int[] {5, 6, 7, 8, 9, 10, 11, 12, 13, 14, 16}) {
            check.due("kind " + kind + " stands in the program", seen[kind], true);
        }
    }

    private static void count() {
        check.sentence(4, "tokenCount() answers the number of tokens held, 0..128");
        HomeContexts x = new HomeContexts();
        for (int i = 0; i < 128; i++) {
            check.due("tokenCount with " + i, x.tokenCount(), i);
            check.due("a refused token", x.addToken(-1, 0), false);
            check.due("tokenCount after a refused token", x.tokenCount(), i);
            check.due("addToken " + i, x.addToken(HomeContexts.T_NUM, i), true);
        }
        check.due("tokenCount of a full list", x.tokenCount(), 128);
        check.due("a token too many", x.addToken(HomeContexts.T_NUM, 0), false);
        check.due("tokenCount after a token too many", x.tokenCount(), 128);
        check.due("compile", x.compile(), HomeContexts.C_METHODS);
        check.due("run", x.run(0, 0), HomeContexts.OUT_NOT_READY);
        check.due("tokenCount after refusals", x.tokenCount(), 128);
        x.clear();
        check.due("tokenCount after clear", x.tokenCount(), 0);
    }

    private static void askingTheCount() {
        check.sentence(4, "tokenCount() changes nothing");
        States.askingKeeps(check, States.TOKEN_COUNT);
    }
}
