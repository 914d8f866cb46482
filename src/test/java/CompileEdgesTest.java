/** The sentences of promises 5 and 6 that name an edge: each has a test of its own. */
public final class CompileEdgesTest {
    private static final Check check = new Check();
    private static final int[] ARITY = {0, 0, 1, 0, 1, 0, 2, 2, 2, 2, 3, 2, 1, 1, 2, 1, 1};
    private static final int OK = HomeContexts.C_OK;

    // Each of these programs fails one test of compile alone; all but the first
    // can be put together, and then fail as many.
    private static final String UNFINISHED = "SEQ 1 ";
    private static final String NINE = "1 2 3 4 5 6 7 8 9 ";
    private static final String DEEP = "PRINT PRINT PRINT PRINT PRINT PRINT PRINT PRINT 1 ";
    private static final String PARAM = "PARAM ";
    private static final String CALL = "CALL:7 1 ";

    public static void main(String[] args) {
        arities();
        rootsAtDepthOne();
        noTokens();
        unfinished();
        moreThanEight();
        depthAboveEight();
        paramOutsideBlock();
        callOfNoMethod();
        firstFailingTest();
        ready();
        failed();
        compileKeeps();
        count();
        askingTheCount();
        check.end();
    }

    private static HomeContexts compiles(String program, int want) {
        HomeContexts x = new HomeContexts();
        check.add(x, program);
        check.due("compile of " + program, x.compile(), want);
        return x;
    }

    /** An operand short, just enough, and one too many, which is then a method of its own. */
    private static void arities() {
        check.sentence(5, "An expression is a token followed by as many expressions as its arity");
        for (int kind = 0; kind <= 16; kind++) {
            String program = "BLOCK " + Check.wordOf(kind);
            for (int operand = 0; operand < ARITY[kind]; operand++) {
                compiles(program, HomeContexts.C_INCOMPLETE);
                program += " 1";
            }
            check.due("methodCount of " + program, compiles(program, OK).methodCount(), 1);
            check.due("methodCount of " + program + " 1", compiles(program + " 1", OK).methodCount(), 2);
        }
    }

    /** Were the depth of a method counted on from the one before, the last of these would be too deep. */
    private static void rootsAtDepthOne() {
        check.sentence(5, "The root token of each expression in the sequence has depth 1");
        String seven = "PRINT ".repeat(7) + "1 ";
        for (int methods = 1; methods <= 8; methods++) {
            compiles(seven.repeat(methods), OK);
            compiles(seven.repeat(methods - 1) + "PRINT " + seven, HomeContexts.C_DEEP);
        }
    }

    private static void noTokens() {
        check.sentence(5, "no tokens: C_EMPTY");
        HomeContexts x = new HomeContexts();
        check.due("compile of a new object", x.compile(), HomeContexts.C_EMPTY);
        check.due("compile again", x.compile(), HomeContexts.C_EMPTY);
        check.due("a refused token", x.addToken(17, 0), false);
        check.due("compile after a refused token", x.compile(), HomeContexts.C_EMPTY);
        check.add(x, "1");
        check.due("compile of one token", x.compile(), OK);
        x.clear();
        check.due("compile after clear", x.compile(), HomeContexts.C_EMPTY);
    }

    private static void unfinished() {
        check.sentence(5, "the tokens end inside an unfinished expression: C_INCOMPLETE");
        for (int kind = 0; kind <= 16; kind++) {
            if (ARITY[kind] == 0) {
                continue;
            }
            String word = Check.wordOf(kind);
            String lacking = word + " 2".repeat(ARITY[kind] - 1);
            compiles(lacking, HomeContexts.C_INCOMPLETE);
            compiles("1 " + lacking, HomeContexts.C_INCOMPLETE);
            compiles("ADD 1 " + lacking, HomeContexts.C_INCOMPLETE);
            compiles("ADD " + lacking + " 1", HomeContexts.C_INCOMPLETE);
            compiles(lacking + " 3", OK);
        }
        compiles("PRINT ".repeat(128), HomeContexts.C_INCOMPLETE);
        compiles(Check.sum(6) + "RET", HomeContexts.C_INCOMPLETE);
        compiles(Check.sum(6) + "7", OK);
        compiles("IF ".repeat(128), HomeContexts.C_INCOMPLETE);
    }

    private static void moreThanEight() {
        check.sentence(5, "more than 8 expressions: C_METHODS");
        for (String body : new String[] {"1 ", "ADD 1 2 ", "IF 1 2 BLOCK PARAM "}) {
            for (int methods = 1; methods <= 12; methods++) {
                compiles(body.repeat(methods), methods <= 8 ? OK : HomeContexts.C_METHODS);
            }
        }
        compiles("1 ".repeat(128), HomeContexts.C_METHODS);
    }

    /** A token at depth 8, then one at depth 9, as each operand of each kind. */
    private static void depthAboveEight() {
        check.sentence(5, "some token has depth above 8: C_DEEP");
        for (int kind = 0; kind <= 16; kind++) {
            for (int place = 0; place < ARITY[kind]; place++) {
                String before = Check.wordOf(kind) + " " + "1 ".repeat(place);
                String behind = "1 ".repeat(ARITY[kind] - place - 1);
                compiles(before.repeat(7) + "1 " + behind.repeat(7), OK);
                compiles(before.repeat(8) + "1 " + behind.repeat(8), HomeContexts.C_DEEP);
                compiles("BLOCK " + before.repeat(6) + "PARAM " + behind.repeat(6), OK);
                compiles("BLOCK " + before.repeat(7) + "PARAM " + behind.repeat(7), HomeContexts.C_DEEP);
            }
        }
        compiles("PRINT ".repeat(127) + "1", HomeContexts.C_DEEP);
        compiles(Check.sum(5) + "PRINT ".repeat(7) + "1", OK);
        compiles(Check.sum(5) + "PRINT ".repeat(8) + "1", HomeContexts.C_DEEP);
        compiles("PRINT ".repeat(8) + "1 2", HomeContexts.C_DEEP);
    }

    /** A block before, behind or beside the PARAM is not one around it. */
    private static void paramOutsideBlock() {
        check.sentence(5, "some T_PARAM has no T_BLOCK token among its ancestors: C_PARAM");
        compiles("PARAM", HomeContexts.C_PARAM);
        compiles("BLOCK PARAM", OK);
        compiles("BLOCK 1 PARAM", HomeContexts.C_PARAM);
        compiles("PARAM BLOCK 1", HomeContexts.C_PARAM);
        compiles("BLOCK PARAM PARAM", HomeContexts.C_PARAM);
        compiles("SEQ BLOCK PARAM PARAM", HomeContexts.C_PARAM);
        compiles("SEQ PARAM BLOCK PARAM", HomeContexts.C_PARAM);
        compiles("VALUE BLOCK PARAM PARAM", HomeContexts.C_PARAM);
        compiles("IF BLOCK PARAM BLOCK PARAM PARAM", HomeContexts.C_PARAM);
        compiles("IF BLOCK PARAM BLOCK PARAM BLOCK PARAM", OK);
        compiles("PRINT ".repeat(7) + "PARAM", HomeContexts.C_PARAM);
        compiles("BLOCK " + "PRINT ".repeat(6) + "PARAM", OK);
        compiles("PRINT ".repeat(6) + "BLOCK PARAM", OK);
        compiles("BLOCK ".repeat(7) + "PARAM", OK);
        compiles("BLOCK SEQ BLOCK 1 PARAM", OK);
        compiles("1 2 3 4 5 6 7 BLOCK PARAM", OK);
        compiles("1 2 3 4 5 6 7 PARAM", HomeContexts.C_PARAM);
    }

    /** For each number of methods: the last one, the one behind it, and the greatest that a token can name. */
    private static void callOfNoMethod() {
        check.sentence(5, "some T_CALL has a v that is not below the number of expressions: C_CALL");
        for (int methods = 1; methods <= 8; methods++) {
            String others = "1 ".repeat(methods - 1);
            for (int v = 0; v <= 7; v++) {
                int want = v < methods ? OK : HomeContexts.C_CALL;
                compiles("CALL:" + v + " 1 " + others, want);
                compiles(others + "CALL:" + v + " 1", want);
                compiles(others + "BLOCK IF 0 CALL:" + v + " 1 2", want);
            }
        }
        compiles("SEQ CALL:0 1 CALL:1 1", HomeContexts.C_CALL);
        compiles("SEQ CALL:1 1 CALL:0 1", HomeContexts.C_CALL);
    }

    private static void firstFailingTest() {
        check.sentence(5, "the first failing test in this order gives the answer");
        String[] faults = {NINE, DEEP, PARAM, CALL};
        int[] answers = {HomeContexts.C_METHODS, HomeContexts.C_DEEP, HomeContexts.C_PARAM, HomeContexts.C_CALL};
        for (int a = 0; a < faults.length; a++) {
            compiles(faults[a], answers[a]);
            compiles(faults[a] + UNFINISHED, HomeContexts.C_INCOMPLETE);
            for (int b = a + 1; b < faults.length; b++) {
                compiles(faults[a] + faults[b], answers[a]);
                compiles(faults[b] + faults[a], answers[a]);
                compiles(faults[b] + faults[a] + UNFINISHED, HomeContexts.C_INCOMPLETE);
            }
        }
        compiles(CALL + PARAM + DEEP + NINE + UNFINISHED, HomeContexts.C_INCOMPLETE);
        compiles(CALL + PARAM + DEEP + NINE, HomeContexts.C_METHODS);
        compiles(CALL + PARAM + DEEP, HomeContexts.C_DEEP);
        compiles(CALL + PARAM, HomeContexts.C_PARAM);
        // One token may bear several faults.
        compiles("PRINT ".repeat(8) + "CALL:7 PARAM", HomeContexts.C_DEEP);
        compiles("PRINT ".repeat(8) + "PARAM", HomeContexts.C_DEEP);
        compiles("PRINT ".repeat(8) + "CALL:7", HomeContexts.C_INCOMPLETE);
        compiles("CALL:7 PARAM", HomeContexts.C_PARAM);
    }

    private static void ready() {
        check.sentence(5, "it answers C_OK: the program is ready and methodCount() is the number of expressions (1..8)");
        for (int methods = 1; methods <= 8; methods++) {
            HomeContexts x = compiles("CALL:" + (methods - 1) + " VAR:0 ".repeat(methods), OK);
            check.due("methodCount of " + methods, x.methodCount(), methods);
            check.due("run of " + methods + " methods", x.run(0, 0), HomeContexts.OUT_FUEL);
            check.due("compile of a ready program", x.compile(), OK);
            check.due("methodCount after compile again", x.methodCount(), methods);
        }
    }

    private static void failed() {
        check.sentence(5, "On any failure the program is not ready and methodCount() is 0");
        String[] programs = {UNFINISHED, NINE, DEEP, PARAM, CALL};
        for (int i = 0; i < programs.length; i++) {
            HomeContexts x = check.ready("7");
            check.add(x, programs[i]);
            check.due("compile with " + programs[i], x.compile(), HomeContexts.C_INCOMPLETE + i);
            check.due("methodCount with " + programs[i], x.methodCount(), 0);
            check.due("run with " + programs[i], x.run(0, 9), HomeContexts.OUT_NOT_READY);
            check.due("outcome with " + programs[i], x.outcome(), HomeContexts.OUT_NONE);
        }
        HomeContexts y = check.ready("7");
        y.clear();
        check.due("compile of nothing", y.compile(), HomeContexts.C_EMPTY);
        check.due("methodCount of nothing", y.methodCount(), 0);
        check.due("run of nothing", y.run(0, 9), HomeContexts.OUT_NOT_READY);
    }

    /** After each run, each answer of compile but C_EMPTY, which no run can come before. */
    private static void compileKeeps() {
        check.sentence(5, "The tokens and the results of the last run are never changed by compile()");
        String[] more = {"1 ", UNFINISHED, NINE, DEEP, PARAM, CALL};
        int[] answers = {OK, HomeContexts.C_INCOMPLETE, HomeContexts.C_METHODS, HomeContexts.C_DEEP,
            HomeContexts.C_PARAM, HomeContexts.C_CALL};
        for (int state = 0; state < States.RUNS.length; state++) {
            for (int i = 0; i < more.length; i++) {
                HomeContexts x = States.make(check, state);
                check.add(x, more[i]);
                String before = Check.runAnswers(x);
                int fuel = x.fuelLeft();
                int tokens = x.tokenCount();
                check.due("compile with " + more[i], x.compile(), answers[i]);
                check.same("compile with " + more[i], Check.runAnswers(x), before);
                check.due("fuelLeft after compile with " + more[i], x.fuelLeft(), fuel);
                check.due("tokenCount after compile with " + more[i], x.tokenCount(), tokens);
                check.due("compile again with " + more[i], x.compile(), answers[i]);
            }
        }
        // What the tokens are shows when one more finishes them.
        HomeContexts y = compiles("ADD VAR:0 MUL 3", HomeContexts.C_INCOMPLETE);
        check.add(y, "4");
        check.due("compile of the finished program", y.compile(), OK);
        check.due("run of the finished program", y.run(5, 0), HomeContexts.OUT_RESULT);
        check.due("result of the finished program", y.resultValue(), 17);
    }

    private static void count() {
        check.sentence(6, "methodCount() answers the number of methods of the ready program, and 0 when not ready");
        HomeContexts x = new HomeContexts();
        check.due("methodCount of a new object", x.methodCount(), 0);
        for (int methods = 1; methods <= 9; methods++) {
            check.add(x, "PRINT 1");
            check.due("methodCount before compile " + methods, x.methodCount(), 0);
            check.due("compile of " + methods, x.compile(), methods <= 8 ? OK : HomeContexts.C_METHODS);
            check.due("methodCount of " + methods, x.methodCount(), methods <= 8 ? methods : 0);
            check.due("run of " + methods, x.run(0, 0),
                methods <= 8 ? HomeContexts.OUT_RESULT : HomeContexts.OUT_NOT_READY);
            check.due("methodCount after the run of " + methods, x.methodCount(), methods <= 8 ? methods : 0);
            check.due("a refused token", x.addToken(-1, 0), false);
            check.due("methodCount after a refused token", x.methodCount(), methods <= 8 ? methods : 0);
        }
        HomeContexts y = check.ready("1 2 3 4 5 6 7 8");
        check.due("methodCount before clear", y.methodCount(), 8);
        y.clear();
        check.due("methodCount after clear", y.methodCount(), 0);
    }

    private static void askingTheCount() {
        check.sentence(6, "methodCount() changes nothing");
        States.askingKeeps(check, States.METHOD_COUNT);
    }
}
