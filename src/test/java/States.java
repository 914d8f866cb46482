/** The states an object can be in, each made anew when asked for, so that two equal objects can be compared. */
final class States {
    static final int COUNT = 16;

    /** Its runs below come to every outcome, and each leaves a print, a global and some depth behind. */
    static final String EVERY_OUTCOME = "SEQ SEQ GSET:7 BLOCK 1 PRINT -9"
        + " IF VAR:0 IF SUB VAR:0 1 IF SUB VAR:0 2 CALL:0 VAR:0 VALUE CALL:1 0 0 ADD 1 BLOCK 1 BLOCK 2"
        + " BLOCK RET 1";

    /** The arg, the fuel and the outcome of each of these runs. */
    static final int[][] RUNS = {
        {0, 9, HomeContexts.OUT_RESULT}, {1, 9, HomeContexts.OUT_TYPE}, {2, 9, HomeContexts.OUT_CANNOT_RETURN},
        {3, 9, HomeContexts.OUT_FUEL}, {3, 99, HomeContexts.OUT_DEPTH}
    };

    private static final String[] NAMES = {
        "that ran to a result", "that ran to a wrong kind", "that ran to an ended home", "that ran out of fuel",
        "that ran too deep",
        "new", "cleared", "not compiled", "ready and not run", "with a token more than was run",
        "unfinished", "with nine methods", "with a token too deep", "with a PARAM outside a block",
        "with a CALL of no method", "full"
    };

    /** The states without an accepted run since clear or construction. */
    static final int[] WITHOUT_RUN = {5, 6, 7, 8};

    // Both sides of every bound that an index has, and numbers that a narrower type would take for one within.
    static final int[] INDEXES = {
        Integer.MIN_VALUE, Integer.MIN_VALUE + 1, -65536, -256, -33, -32, -9, -8, -2, -1, 0, 1, 2, 3, 6, 7, 8, 9,
        30, 31, 32, 33, 127, 128, 255, 256, 65536, Integer.MAX_VALUE - 1, Integer.MAX_VALUE
    };

    // The questions that can be asked; run and compile, behind them, show what no question shows.
    static final int TOKEN_COUNT = 0, METHOD_COUNT = 1, OUTCOME = 2, RESULT_KIND = 3, RESULT_VALUE = 4,
        PRINT_COUNT = 5, PRINT_KIND = 6, PRINT_VALUE = 7, GLOBAL_KIND = 8, GLOBAL_VALUE = 9, FUEL_LEFT = 10,
        MAX_DEPTH = 11, RUN = 12, COMPILE = 13;

    private States() {
    }

    static String name(int state) {
        return "an object " + NAMES[state];
    }

    /** From state 9 on the program holds a run's answers beside what the name tells. */
    static HomeContexts make(Check check, int state) {
        if (state < RUNS.length) {
            return afterRun(check, state);
        }
        HomeContexts x = new HomeContexts();
        switch (state) {
            case 5:
                return x;
            case 6:
                x = afterRun(check, 4);
                x.clear();
                return x;
            case 7:
                check.add(x, EVERY_OUTCOME);
                return x;
            case 8:
                return check.ready(EVERY_OUTCOME);
            case 9:
                x = afterRun(check, 0);
                check.add(x, "1");
                return x;
            case 10:
                return refused(check, "ADD 1", HomeContexts.C_INCOMPLETE);
            case 11:
                return refused(check, "3 4 5 6 7 8 9", HomeContexts.C_METHODS);
            case 12:
                return refused(check, "PRINT ".repeat(8) + "1", HomeContexts.C_DEEP);
            case 13:
                return refused(check, "PARAM", HomeContexts.C_PARAM);
            case 14:
                return refused(check, "CALL:3 1", HomeContexts.C_CALL);
            default:
                return full(check);
        }
    }

    // No question is asked while a state is made: were it one that changes
    // something, all objects in this state would have it changed alike.
    private static HomeContexts afterRun(Check check, int which) {
        int[] run = RUNS[which];
        HomeContexts x = check.ready(EVERY_OUTCOME);
        check.due("run(" + run[0] + ", " + run[1] + ")", x.run(run[0], run[1]), run[2]);
        return x;
    }

    private static HomeContexts refused(Check check, String more, int answer) {
        HomeContexts x = afterRun(check, 0);
        check.add(x, more);
        check.due("compile of a program with " + more, x.compile(), answer);
        return x;
    }

    /** Of 128 tokens the first and the last both bear on the result. */
    static HomeContexts full(Check check) {
        String between = Check.sum(5) + Check.sum(4) + Check.sum(3) + Check.sum(3);
        HomeContexts x = check.ready("CALL:5 0 " + between + "PRINT 2");
        check.due("run of a full program", x.run(0, 9), HomeContexts.OUT_RESULT);
        return x;
    }

    /**
     * Compares two objects in all that can be asked, and then in what only shows later: readiness, the
     * tokens and what they do.
     */
    static void same(Check check, String what, HomeContexts x, HomeContexts twin) {
        check.same(what, Check.allAnswers(x), Check.allAnswers(twin));
        for (int turn = 0; turn < 2; turn++) {
            for (int[] run : RUNS) {
                check.due("run after " + what, x.run(run[0], run[1]), twin.run(run[0], run[1]));
                check.same("a run after " + what, Check.allAnswers(x), Check.allAnswers(twin));
            }
            check.due("compile after " + what, x.compile(), twin.compile());
            check.same("compile after " + what, Check.allAnswers(x), Check.allAnswers(twin));
        }
    }

    private static int answer(HomeContexts x, int question, int i) {
        switch (question) {
            case TOKEN_COUNT: return x.tokenCount();
            case METHOD_COUNT: return x.methodCount();
            case OUTCOME: return x.outcome();
            case RESULT_KIND: return x.resultKind();
            case RESULT_VALUE: return x.resultValue();
            case PRINT_COUNT: return x.printCount();
            case PRINT_KIND: return x.printKind(i);
            case PRINT_VALUE: return x.printValue(i);
            case GLOBAL_KIND: return x.globalKind(i);
            case GLOBAL_VALUE: return x.globalValue(i);
            case FUEL_LEFT: return x.fuelLeft();
            case MAX_DEPTH: return x.maxDepth();
            case RUN: return x.run(2, 9);
            default: return x.compile();
        }
    }

    private static String answers(HomeContexts x, int question) {
        StringBuilder all = new StringBuilder();
        for (int i : INDEXES) {
            all.append(answer(x, question, i)).append(' ');
        }
        return all.toString();
    }

    /** Asks an object in each state, and then one thing more, which a twin that was not asked answers alike. */
    static void askingKeeps(Check check, int question) {
        for (int state = 0; state < COUNT; state++) {
            for (int other = TOKEN_COUNT; other <= COMPILE; other++) {
                HomeContexts x = make(check, state);
                HomeContexts twin = make(check, state);
                String first = answers(x, question);
                check.same("asking " + name(state) + " again", answers(x, question), first);
                check.same("asking " + name(state) + " for " + question + ", then for " + other,
                    answers(x, other), answers(twin, other));
            }
        }
    }
}
