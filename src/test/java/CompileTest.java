/** Promises 5 and 6: compile and methodCount. */
public final class CompileTest {
    private static final Check check = new Check();

    public static void main(String[] args) {
        arities();
        empty();
        incomplete();
        methods();
        depths();
        params();
        calls();
        order();
        failureUnmakesReady();
        keepsTokensAndRun();
        bodies();
        nothingLeftOfEarlierProgram();
        check.end();
    }

    private static HomeContexts answer(String program, int want) {
        HomeContexts x = new HomeContexts();
        check.add(x, program);
        int tokens = x.tokenCount();
        check.due("compile of " + program, x.compile(), want);
        check.due("compile again of " + program, x.compile(), want);
        check.due("tokenCount of " + program, x.tokenCount(), tokens);
        if (want != HomeContexts.C_OK) {
            check.due("methodCount of " + program, x.methodCount(), 0);
            check.due("run of " + program, x.run(0, 5), HomeContexts.OUT_NOT_READY);
        }
        return x;
    }

    private static void fine(String program, int methods) {
        HomeContexts x = answer(program, HomeContexts.C_OK);
        check.due("methodCount of " + program, x.methodCount(), methods);
        check.due("methodCount again of " + program, x.methodCount(), methods);
    }

    private static void arities() {
        int[] arity = {0, 0, 1, 0, 1, 0, 2, 2, 2, 2, 3, 2, 1, 1, 2, 1, 1};
        for (int kind = 0; kind <= 16; kind++) {
            if (kind == HomeContexts.T_PARAM) {
                continue;
            }
            String program = Check.wordOf(kind);
            for (int operand = 0; operand < arity[kind]; operand++) {
                answer(program, HomeContexts.C_INCOMPLETE);
                program += " 1";
            }
            fine(program, 1);
            fine(program + " 1", 2);
        }
        fine("BLOCK PARAM", 1);
        fine("BLOCK PARAM 1", 2);
    }

    private static void empty() {
        HomeContexts x = new HomeContexts();
        check.due("compile of nothing", x.compile(), HomeContexts.C_EMPTY);
        check.due("methodCount of nothing", x.methodCount(), 0);
    }

    private static void incomplete() {
        answer("SEQ 1 SEQ 2", HomeContexts.C_INCOMPLETE);
        answer("1 2 ADD 1", HomeContexts.C_INCOMPLETE);
        answer("1 BLOCK", HomeContexts.C_INCOMPLETE);
        answer("IF ADD 1 2 ADD 1 2 ADD 1", HomeContexts.C_INCOMPLETE);
        answer("IF ADD 1 2 ADD 1 2", HomeContexts.C_INCOMPLETE);
        fine("IF ADD 1 2 ADD 1 2 ADD 1 2", 1);
        HomeContexts x = new HomeContexts();
        for (int i = 0; i < 128; i++) {
            check.due("addToken", x.addToken(HomeContexts.T_PRINT, 0), true);
        }
        check.due("compile of 128 PRINT", x.compile(), HomeContexts.C_INCOMPLETE);
    }

    private static void methods() {
        String program = "";
        for (int count = 1; count <= 8; count++) {
            program += " ADD 1 " + count;
            fine(program, count);
        }
        answer(program + " 9", HomeContexts.C_METHODS);
        answer(program + " 9 10", HomeContexts.C_METHODS);
        HomeContexts x = new HomeContexts();
        for (int i = 0; i < 128; i++) {
            check.due("addToken", x.addToken(HomeContexts.T_NUM, 0), true);
        }
        check.due("compile of 128 methods", x.compile(), HomeContexts.C_METHODS);
    }

    private static void depths() {
        fine("PRINT ".repeat(7) + "1", 1);
        answer("PRINT ".repeat(8) + "1", HomeContexts.C_DEEP);
        answer("PRINT ".repeat(127) + "1", HomeContexts.C_DEEP);
        fine("SEQ 1 ".repeat(7) + "1", 1);
        answer("SEQ 1 ".repeat(8) + "1", HomeContexts.C_DEEP);
        fine("BLOCK ".repeat(7) + "PARAM", 1);
        answer("BLOCK ".repeat(8) + "PARAM", HomeContexts.C_DEEP);
        fine("IF 1 2 ".repeat(7) + "3", 1);
        answer("IF 1 2 ".repeat(8) + "3", HomeContexts.C_DEEP);
        answer("1 SEQ " + "PRINT ".repeat(7) + "1 2 3", HomeContexts.C_DEEP);
        fine("1 SEQ " + "PRINT ".repeat(6) + "1 2 " + "PRINT ".repeat(7) + "1 SEQ 3 " + "RET ".repeat(6) + "1", 4);
        answer("SEQ " + "PRINT ".repeat(7) + "1 2", HomeContexts.C_DEEP);
    }

    private static void params() {
        answer("PARAM", HomeContexts.C_PARAM);
        answer("1 PARAM", HomeContexts.C_PARAM);
        answer("SEQ BLOCK PARAM PARAM", HomeContexts.C_PARAM);
        answer("SEQ PARAM BLOCK PARAM", HomeContexts.C_PARAM);
        answer("VALUE BLOCK PARAM PARAM", HomeContexts.C_PARAM);
        answer("BLOCK PARAM PARAM", HomeContexts.C_PARAM);
        fine("BLOCK SEQ 1 ADD 1 PRINT PARAM", 1);
        fine("BLOCK BLOCK PARAM", 1);
        fine("BLOCK SEQ BLOCK 1 PARAM", 1);
    }

    private static void calls() {
        fine("CALL:0 1", 1);
        answer("CALL:1 1", HomeContexts.C_CALL);
        fine("CALL:1 1 1", 2);
        answer("CALL:7 1", HomeContexts.C_CALL);
        answer("1 BLOCK CALL:2 1", HomeContexts.C_CALL);
        fine("CALL:7 1 1 2 3 4 5 6 CALL:7 1", 8);
        answer("CALL:7 1 1 2 3 4 5 6", HomeContexts.C_CALL);
        answer("1 IF 0 CALL:3 1 2 3", HomeContexts.C_CALL);
    }

    private static void order() {
        String nine = "1 2 3 4 5 6 7 8 9 ";
        String deep = "PRINT ".repeat(8) + "1 ";
        answer(nine + deep + "PARAM CALL:7 1 ADD 1", HomeContexts.C_INCOMPLETE);
        answer(nine + "ADD 1", HomeContexts.C_INCOMPLETE);
        answer(deep + "ADD 1", HomeContexts.C_INCOMPLETE);
        answer("PARAM ADD 1", HomeContexts.C_INCOMPLETE);
        answer("CALL:7 1 ADD 1", HomeContexts.C_INCOMPLETE);
        answer("PARAM CALL:7 1 " + deep + nine, HomeContexts.C_METHODS);
        answer("PARAM " + nine, HomeContexts.C_METHODS);
        answer("PARAM CALL:7 1 " + deep, HomeContexts.C_DEEP);
        answer("CALL:7 1 " + deep, HomeContexts.C_DEEP);
        answer("PRINT ".repeat(8) + "PARAM", HomeContexts.C_DEEP);
        answer("CALL:7 1 PARAM", HomeContexts.C_PARAM);
        answer("CALL:7 PARAM", HomeContexts.C_PARAM);
    }

    private static void failureUnmakesReady() {
        HomeContexts x = check.ready("1");
        check.add(x, "PARAM");
        check.due("compile with PARAM", x.compile(), HomeContexts.C_PARAM);
        check.due("methodCount after failure", x.methodCount(), 0);
        check.due("run after failure", x.run(0, 0), HomeContexts.OUT_NOT_READY);
    }

    private static void keepsTokensAndRun() {
        HomeContexts x = check.ran("SEQ GSET:2 BLOCK 1 SEQ PRINT 3 CALL:1 4 VAR:0", 5, 9, HomeContexts.OUT_RESULT);
        String before = Check.allAnswers(x);
        check.due("compile of a ready program", x.compile(), HomeContexts.C_OK);
        check.same("compile of a ready program", Check.allAnswers(x), before);
        check.add(x, "ADD 1");
        String run = Check.runAnswers(x);
        check.due("compile of an unfinished program", x.compile(), HomeContexts.C_INCOMPLETE);
        check.same("a failed compile", Check.runAnswers(x), run);
        check.due("fuelLeft after a failed compile", x.fuelLeft(), 8);
        check.due("tokenCount after a failed compile", x.tokenCount(), 12);
        check.add(x, "2");
        check.due("compile of the finished program", x.compile(), HomeContexts.C_OK);
        check.due("methodCount of the finished program", x.methodCount(), 3);
        check.same("a compile after a failed one", Check.runAnswers(x), run);
        check.due("run of the finished program", x.run(5, 9), HomeContexts.OUT_RESULT);
        check.same("the run of the finished program", Check.runAnswers(x), run);
    }

    private static void bodies() {
        String program = "";
        for (int method = 1; method < 8; method++) {
            program += " ADD VAR:0 MUL 10 " + method;
        }
        for (int method = 1; method < 8; method++) {
            check.intResult("CALL:" + method + " VAR:0" + program, 3, 3 + 10 * method);
        }
    }

    private static void nothingLeftOfEarlierProgram() {
        HomeContexts x = check.ready("BLOCK BLOCK SEQ PRINT PRINT PRINT PRINT PARAM PARAM");
        x.clear();
        check.add(x, "1 PARAM");
        check.due("compile of PARAM where a block's token was", x.compile(), HomeContexts.C_PARAM);
        x.clear();
        check.add(x, "1 2 3 4 5 6 7 8");
        check.due("compile where deep tokens were", x.compile(), HomeContexts.C_OK);
        check.due("methodCount where deep tokens were", x.methodCount(), 8);
        x.clear();
        check.add(x, "CALL:1 0 PRINT 5");
        check.due("compile where other methods were", x.compile(), HomeContexts.C_OK);
        check.due("run where other methods were", x.run(0, 1), HomeContexts.OUT_RESULT);
        check.due("result where other methods were", x.resultValue(), 5);
    }
}
