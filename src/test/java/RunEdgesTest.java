/** The sentences of promise 7 that name an edge: each has a test of its own. */
public final class RunEdgesTest {
    private static final Check check = new Check();
    private static final int MIN = Integer.MIN_VALUE;
    private static final int MAX = Integer.MAX_VALUE;
    private static final int INT = HomeContexts.K_INT;
    private static final int BLOCK = HomeContexts.K_BLOCK;
    private static final int RESULT = HomeContexts.OUT_RESULT;
    private static final int CANNOT = HomeContexts.OUT_CANNOT_RETURN;
    private static final int FUEL = HomeContexts.OUT_FUEL;
    private static final int TYPE = HomeContexts.OUT_TYPE;
    private static final int DEPTH = HomeContexts.OUT_DEPTH;

    /** Calls itself arg times; with each call one more activation is active. */
    private static final String CALLS = "IF VAR:0 ADD 1 CALL:0 SUB VAR:0 1 0";
    /** A block that evaluates itself arg times, after a first time. */
    private static final String BLOCKS = "SEQ GSET:0 BLOCK IF PARAM ADD 1 VALUE GLOB:0 SUB PARAM 1 0 VALUE GLOB:0 VAR:0";
    /** Makes 255 calls of method 1, none of them deep. */
    private static final String ALL_FUEL = "CALL:1 7 IF VAR:0 ADD CALL:1 SUB VAR:0 1 CALL:1 SUB VAR:0 1 1";

    public static void main(String[] args) {
        notReady();
        fuelTooSmall();
        fuelTooLarge();
        fuelWithin();
        globalsStartAnew();
        printsStartAnew();
        resultStartsAnew();
        firstLocals();
        firstCostsNothing();
        firstReturns();
        stoppedResult();
        staysReady();
        localsLiveOn();
        lastLocalAndGlobal();
        wraps();
        lessIsSigned();
        wrongKindOfOperand();
        wrongKindOfCondition();
        conditionNotZero();
        firstPrintsKept();
        blockNotEvaluated();
        valueOfInt();
        valueWithoutFuel();
        valueSpends();
        valueTooDeep();
        callWithoutFuel();
        callSpends();
        callTooDeep();
        callStartsAnew();
        returnInMethod();
        returnToActiveHome();
        returnUnwinds();
        returnToEndedHome();
        stopKeepsGlobalsAndPrints();
        stopKeepsFuel();
        unitMore();
        check.end();
    }

    private static void notReady() {
        check.sentence(7, "If the program is not ready, run answers OUT_NOT_READY and changes nothing");
        int refusing = 0;
        for (int state = 0; state < States.COUNT; state++) {
            HomeContexts x = States.make(check, state);
            if (x.methodCount() > 0) {
                continue;
            }
            refusing++;
            for (int arg : new int[] {MIN, 0, MAX}) {
                for (int fuel : new int[] {MIN, -1, 0, 1, 255, 256, MAX}) {
                    check.due("run on " + States.name(state), x.run(arg, fuel), HomeContexts.OUT_NOT_READY);
                }
            }
            States.same(check, "refused runs on " + States.name(state), x, States.make(check, state));
        }
        check.due("states that are not ready", refusing, 9);
    }

    private static void fuelIs(String program, int fuel, int outcome, int left) {
        HomeContexts x = check.ran(program, 0, fuel, outcome);
        check.due("fuelLeft after run(0, " + fuel + ") of " + program, x.fuelLeft(), left);
    }

    private static void fuelTooSmall() {
        check.sentence(7, "fuel is clamped into 0..255 (below 0 becomes 0)");
        for (int fuel : new int[] {-1, -2, -255, -256, -65536, MIN + 1, MIN}) {
            fuelIs("VAR:0", fuel, RESULT, 0);
            fuelIs("CALL:0 1", fuel, FUEL, 0);
        }
    }

    private static void fuelTooLarge() {
        check.sentence(7, "fuel is clamped into 0..255 (above 255 becomes 255)");
        for (int fuel : new int[] {256, 257, 511, 512, 65536, MAX - 1, MAX}) {
            fuelIs("VAR:0", fuel, RESULT, 255);
            fuelIs(ALL_FUEL, fuel, RESULT, 0);
            fuelIs("SEQ CALL:1 0 " + ALL_FUEL, fuel, FUEL, 0);
        }
    }

    private static void fuelWithin() {
        check.sentence(7, "the fuel counter is set to the clamped fuel");
        for (int fuel = 0; fuel <= 255; fuel++) {
            fuelIs("VAR:0", fuel, RESULT, fuel);
        }
        fuelIs(ALL_FUEL, 255, RESULT, 0);
        fuelIs(ALL_FUEL, 254, FUEL, 0);
    }

    private static void globalsStartAnew() {
        check.sentence(7, "Then all globals become (K_INT, 0)");
        for (int i = 0; i < 8; i++) {
            HomeContexts x = check.ran("IF VAR:0 GSET:" + i + " BLOCK 1 GLOB:" + i, 1, 0, RESULT);
            check.due("globalKind(" + i + ")", x.globalKind(i), BLOCK);
            check.due("second run", x.run(0, 0), RESULT);
            check.due("resultKind from global " + i, x.resultKind(), INT);
            check.due("resultValue from global " + i, x.resultValue(), 0);
            check.due("globalKind(" + i + ") after the second run", x.globalKind(i), INT);
            check.due("globalValue(" + i + ") after the second run", x.globalValue(i), 0);
        }
    }

    private static void printsStartAnew() {
        check.sentence(7, "the print list is emptied");
        HomeContexts x = check.ran(printing(40), 0, 255, RESULT);
        check.due("printCount of a full list", x.printCount(), 32);
        check.due("run that prints nothing", x.run(1, 255), RESULT);
        check.due("printCount", x.printCount(), 0);
        check.due("printKind(0)", x.printKind(0), -1);
        check.due("run that prints again", x.run(0, 255), RESULT);
        check.due("printCount of a full list again", x.printCount(), 32);
        check.due("printValue(0)", x.printValue(0), 1);
        check.due("run that stops at its first print", x.run(0, 2), FUEL);
        check.due("printCount of the stopped run", x.printCount(), 1);
        check.due("printKind(1) of the stopped run", x.printKind(1), -1);
    }

    /** Prints the numbers from 1 to count, a multiple of 8, each once, when the arg is 0. */
    private static String printing(int count) {
        String eight = "CALL:2 0 ";
        for (int level = 0; level < 3; level++) {
            eight = "SEQ " + eight + eight;
        }
        return "IF VAR:0 0 " + "SEQ CALL:1 0 ".repeat(count / 8 - 1) + "CALL:1 0 " + eight
            + "PRINT GSET:0 ADD 1 GLOB:0";
    }

    private static void resultStartsAnew() {
        check.sentence(7, "the result becomes (K_INT, 0)");
        for (int[] run : States.RUNS) {
            HomeContexts x = check.ran(States.EVERY_OUTCOME, 0, 9, RESULT);
            check.due("resultKind", x.resultKind(), BLOCK);
            check.due("resultValue", x.resultValue(), 27);
            check.due("second run", x.run(run[0], run[1]), run[2]);
            check.due("resultKind after outcome " + run[2], x.resultKind(), run[2] == RESULT ? BLOCK : INT);
            check.due("resultValue after outcome " + run[2], x.resultValue(), run[2] == RESULT ? 27 : 0);
        }
    }

    /** The second run finds the locals that the first has filled. */
    private static void firstLocals() {
        check.sentence(7, "An activation of method 0 starts with L0 = int arg and L1..L3 = int 0");
        for (int arg : new int[] {MIN, MIN + 1, -65536, -1, 0, 1, 255, 256, 65536, MAX - 1, MAX}) {
            check.result("VAR:0", arg, 0, INT, arg);
        }
        HomeContexts x = check.ready("SEQ SEQ SEQ PRINT VAR:0 PRINT VAR:1 SEQ PRINT VAR:2 PRINT VAR:3"
            + " SET:0 SET:1 SET:2 SET:3 BLOCK 1");
        for (int arg : new int[] {5, MIN, MAX}) {
            check.due("run", x.run(arg, 0), RESULT);
            for (int i = 0; i < 4; i++) {
                check.due("kind of local " + i, x.printKind(i), INT);
                check.due("value of local " + i, x.printValue(i), i == 0 ? arg : 0);
            }
        }
    }

    private static void firstCostsNothing() {
        check.sentence(7, "no fuel is spent on it");
        for (int fuel : new int[] {0, 1, 255}) {
            fuelIs("RET VAR:0", fuel, RESULT, fuel);
        }
    }

    private static void firstReturns() {
        check.sentence(7, "When that activation returns (normally or by RET), what it returned is the result");
        check.result("VAR:0", MIN, 0, INT, MIN);
        check.result("RET VAR:0", MIN, 0, INT, MIN);
        check.result("SEQ RET VAR:0 1", MAX, 0, INT, MAX);
        check.result("SEQ VALUE BLOCK RET VAR:0 0 1", MIN, 1, INT, MIN);
        check.result("VALUE BLOCK RET BLOCK 1 0", 0, 1, BLOCK, 3);
        check.result("BLOCK 1", 0, 0, BLOCK, 0);
        check.result("RET BLOCK 1", 0, 0, BLOCK, 1);
    }

    private static void stoppedResult() {
        check.sentence(7, "Otherwise the outcome is the one that stopped the run and the result stays (K_INT, 0)");
        for (int[] run : States.RUNS) {
            HomeContexts x = check.ran(States.EVERY_OUTCOME, run[0], run[1], run[2]);
            if (run[2] != RESULT) {
                check.due("resultKind of outcome " + run[2], x.resultKind(), INT);
                check.due("resultValue of outcome " + run[2], x.resultValue(), 0);
            }
        }
        // The stop comes while a value is being returned.
        HomeContexts y = check.ran("RET SEQ 5 VALUE 6 7", 4, 9, TYPE);
        check.due("resultValue of a stopped return", y.resultValue(), 0);
    }

    private static void staysReady() {
        check.sentence(7, "The program stays ready, and the tokens and methodCount() do not change");
        for (int[] first : States.RUNS) {
            HomeContexts x = check.ran(States.EVERY_OUTCOME, first[0], first[1], first[2]);
            check.due("methodCount after outcome " + first[2], x.methodCount(), 2);
            check.due("tokenCount after outcome " + first[2], x.tokenCount(), 32);
            for (int[] second : States.RUNS) {
                check.due("run after outcome " + first[2], x.run(second[0], second[1]), second[2]);
                HomeContexts fresh = check.ran(States.EVERY_OUTCOME, second[0], second[1], second[2]);
                check.same("a run after outcome " + first[2], Check.allAnswers(x), Check.allAnswers(fresh));
                x.run(first[0], first[1]);
            }
        }
    }

    /** The home ends by its body, by RET, by a block's RET and by unwinding; then other homes come and go. */
    private static void localsLiveOn() {
        check.sentence(7, "Its locals live on after it ends and stay readable and writable through its blocks");
        String uses = "SEQ SET:1 CALL:2 40"
            + " SEQ CALL:1 5 SEQ VALUE VAR:1 0 SEQ CALL:1 6 SEQ VALUE VAR:1 0 VALUE VAR:1 0"
            + " SET:1 SET:2 SET:3 SET:0 ADD VAR:0 100 ";
        String[] homes = {
            "SEQ SET:3 2 BLOCK SET:0 ADD VAR:0 VAR:3",
            "SEQ SET:3 2 SEQ RET BLOCK SET:0 ADD VAR:0 VAR:3 0",
            "SEQ SET:3 2 VALUE BLOCK RET BLOCK SET:0 ADD VAR:0 VAR:3 0",
            "SEQ CALL:3 BLOCK RET PARAM 0 SEQ SET:3 2 SEQ SET:1 VAR:0 SEQ SET:0 40 VALUE VAR:1 BLOCK SET:0 ADD VAR:0 VAR:3",
        };
        for (String home : homes) {
            HomeContexts x = check.ran(uses + home, 7, 255, RESULT);
            check.due("a local of the home " + home, x.resultValue(), 46);
        }
        // The first activation and the first home after it, over all other homes that a run can have.
        HomeContexts y = check.ran("SEQ SET:3 CALL:2 77 SEQ CALL:1 6 SEQ CALL:1 5 SEQ CALL:1 4 ADD VALUE VAR:3 0 VAR:0"
            + " IF VAR:0 SEQ CALL:1 SUB VAR:0 1 SET:0 CALL:1 SUB VAR:0 1 SET:0 SET:1 SET:2 SET:3 5"
            + " BLOCK VAR:0", 1000, 255, RESULT);
        check.due("locals over many homes", y.resultValue(), 1077);
        check.due("fuelLeft over many homes", y.fuelLeft(), 255 - 1 - 127 - 63 - 31 - 1);
    }

    private static void lastLocalAndGlobal() {
        check.sentence(7, "SET i e: store it into Li of home; GSET i e: the same on global Gi (eight globals)");
        for (int i = 0; i < 8; i++) {
            for (int j = 0; j < 8; j++) {
                int want = i == j ? 6 : 0;
                check.result("SEQ GSET:" + i + " 6 GLOB:" + j, 0, 0, INT, want);
                if (i < 4 && j < 4) {
                    check.result("SEQ SET:" + i + " 6 VAR:" + j, 0, 0, INT, want);
                    check.result("VALUE BLOCK SEQ SET:" + i + " 6 VAR:" + j + " 5", 0, 1, INT, want);
                }
            }
        }
        // The last local of one home lies beside the first of another.
        check.result("SEQ CALL:1 5 ADD VAR:0 VAR:3 SET:0 SET:1 SET:2 SET:3 9", 4, 9, INT, 4);
        check.result("SEQ SET:3 3 SEQ CALL:1 5 ADD VAR:0 VAR:3 SEQ SET:0 8 SET:3 9", 4, 9, INT, 7);
    }

    private static void wraps() {
        check.sentence(7, "ADD a b, SUB a b, MUL a b: wrapping as Java int");
        check.result("ADD VAR:0 1", MAX, 0, INT, MIN);
        check.result("ADD VAR:0 -1", MIN, 0, INT, MAX);
        check.result("ADD VAR:0 VAR:0", MIN, 0, INT, 0);
        check.result("ADD VAR:0 VAR:0", MAX, 0, INT, -2);
        check.result("SUB VAR:0 1", MIN, 0, INT, MAX);
        check.result("SUB VAR:0 -1", MAX, 0, INT, MIN);
        check.result("SUB 0 VAR:0", MIN, 0, INT, MIN);
        check.result("MUL VAR:0 -1", MIN, 0, INT, MIN);
        check.result("MUL VAR:0 2", MAX, 0, INT, -2);
        check.result("MUL VAR:0 VAR:0", 65536, 0, INT, 0);
        check.result("MUL VAR:0 VAR:0", 46341, 0, INT, -2147479015);
        check.result("MUL VAR:0 VAR:0", MAX, 0, INT, 1);
        // A wrapped value goes on as an int.
        check.result("SUB ADD VAR:0 1 1", MAX, 0, INT, MAX);
        check.result("LESS ADD VAR:0 1 0", MAX, 0, INT, 1);
        check.result("IF MUL VAR:0 VAR:0 5 6", 65536, 0, INT, 6);
    }

    private static void lessIsSigned() {
        check.sentence(7, "LESS a b: int 1 if a<b (signed comparison) else int 0");
        int[] rising = {MIN, MIN + 1, -65536, -1, 0, 1, 65536, MAX - 1, MAX};
        for (int a = 0; a < rising.length; a++) {
            for (int b = 0; b < rising.length; b++) {
                check.result("LESS VAR:0 " + rising[b], rising[a], 0, INT, a < b ? 1 : 0);
            }
        }
    }

    private static void wrongKindOfOperand() {
        check.sentence(7, "if a or b is a block, the outcome is OUT_TYPE; this is checked after both are evaluated");
        for (String word : new String[] {"ADD", "SUB", "MUL", "LESS"}) {
            for (String operands : new String[] {"BLOCK 1 PRINT 2", "1 PRINT BLOCK 2", "BLOCK 1 PRINT BLOCK 2"}) {
                HomeContexts x = check.ran(word + " " + operands, 0, 9, TYPE);
                check.due("printCount of " + word + " " + operands, x.printCount(), 1);
            }
            // What stops the second operand comes before the kind of the first.
            check.ran(word + " BLOCK 1 CALL:0 1", 0, 0, FUEL);
            check.result(word + " BLOCK 1 RET 3", 0, 0, INT, 3);
        }
    }

    private static void wrongKindOfCondition() {
        check.sentence(7, "IF c t f: evaluate c; if it is a block: OUT_TYPE");
        HomeContexts x = check.ran("IF PRINT BLOCK 0 PRINT 2 PRINT 3", 0, 9, TYPE);
        check.due("printCount", x.printCount(), 1);
        check.ran("IF VAR:1 1 IF SET:1 BLOCK 0 2 3", 0, 9, TYPE);
        HomeContexts y = check.ran("VALUE BLOCK IF PARAM 2 3 BLOCK 0", 0, 9, TYPE);
        check.due("fuelLeft", y.fuelLeft(), 8);
    }

    private static void conditionNotZero() {
        check.sentence(7, "if it is non-zero, evaluate only t; if zero, only f");
        for (int c : new int[] {MIN, MIN + 1, -1, 1, 2, 256, 65536, 1 << 30, MAX}) {
            HomeContexts x = check.ran("IF VAR:0 PRINT 2 PRINT 3", c, 0, RESULT);
            check.due("printCount for " + c, x.printCount(), 1);
            check.due("printValue(0) for " + c, x.printValue(0), 2);
            check.due("resultValue for " + c, x.resultValue(), 2);
        }
        HomeContexts y = check.ran("IF VAR:0 PRINT 2 PRINT 3", 0, 0, RESULT);
        check.due("printCount for 0", y.printCount(), 1);
        check.due("printValue(0) for 0", y.printValue(0), 3);
        check.due("resultValue for 0", y.resultValue(), 3);
    }

    /** The arg tells how many are printed; method 1 shares them out by tens, and method 2 prints and counts. */
    private static void firstPrintsKept() {
        check.sentence(7, "PRINT e: the first 32 records are kept, later ones are dropped; the value is e's");
        HomeContexts x = check.ready("CALL:1 VAR:0 SEQ IF LESS VAR:0 11 0 CALL:1 SUB VAR:0 10 CALL:2 IF LESS VAR:0 11 VAR:0 10"
            + " IF VAR:0 SEQ PRINT GSET:0 ADD GLOB:0 1 CALL:2 SUB VAR:0 1 GLOB:0");
        for (int count : new int[] {0, 1, 2, 30, 31, 32, 33, 34, 40}) {
            check.due("run with " + count + " prints", x.run(count, 255), RESULT);
            check.due("printCount of " + count, x.printCount(), Math.min(count, 32));
            check.due("result after " + count + " prints", x.resultValue(), count);
            for (int i = 0; i < 34; i++) {
                boolean kept = i < count && i < 32;
                check.due("printKind(" + i + ") of " + count, x.printKind(i), kept ? INT : -1);
                check.due("printValue(" + i + ") of " + count, x.printValue(i), kept ? i + 1 : 0);
            }
        }
        HomeContexts y = check.ran("SEQ CALL:1 8 SEQ CALL:1 8 SEQ CALL:1 8 SEQ CALL:1 8 ADD PRINT 5 1"
            + " IF VAR:0 SEQ PRINT 1 CALL:1 SUB VAR:0 1 0", 0, 255, RESULT);
        check.due("printCount of 33", y.printCount(), 32);
        check.due("the value of a dropped print", y.resultValue(), 6);
    }

    private static void blockNotEvaluated() {
        check.sentence(7, "BLOCK e: e is not evaluated now");
        HomeContexts x = check.ran("SEQ BLOCK SEQ PRINT 1 SEQ GSET:0 2 SEQ SET:0 3 RET 4 VAR:0", 9, 5, RESULT);
        check.due("resultValue", x.resultValue(), 9);
        check.due("printCount", x.printCount(), 0);
        check.due("globalValue(0)", x.globalValue(0), 0);
        fuelIs("SEQ BLOCK CALL:0 1 2", 0, RESULT, 0);
        fuelIs("SEQ BLOCK VALUE 1 2 2", 0, RESULT, 0);
    }

    /** The int may be the index of a block; the fuel may be spent, and 16 activations active. */
    private static void valueOfInt() {
        check.sentence(7, "VALUE b a: evaluate b, then a; then, in this order: if b is an int: OUT_TYPE");
        HomeContexts x = check.ran("SEQ BLOCK 1 VALUE PRINT 1 PRINT 2", 0, 5, TYPE);
        check.due("printCount", x.printCount(), 2);
        check.due("fuelLeft", x.fuelLeft(), 5);
        fuelIs("VALUE 1 2", 0, TYPE, 0);
        fuelIs("VALUE VAR:0 BLOCK 1", 1, TYPE, 1);
        HomeContexts y = check.ready("IF VAR:0 CALL:0 SUB VAR:0 1 VALUE 1 1");
        for (int fuel : new int[] {15, 16, 255}) {
            check.due("run(15, " + fuel + ")", y.run(15, fuel), TYPE);
            check.due("fuelLeft", y.fuelLeft(), fuel - 15);
            check.due("maxDepth", y.maxDepth(), 16);
        }
        // What stops the second operand comes first.
        check.ran("VALUE 1 CALL:0 1", 0, 0, FUEL);
        check.result("VALUE 1 RET 3", 0, 0, INT, 3);
    }

    private static void valueWithoutFuel() {
        check.sentence(7, "VALUE: if the fuel counter is 0: OUT_FUEL");
        HomeContexts x = check.ran("VALUE SEQ PRINT 1 BLOCK PRINT 3 PRINT 2", 0, 0, FUEL);
        check.due("printCount", x.printCount(), 2);
        check.due("fuelLeft", x.fuelLeft(), 0);
        check.due("maxDepth", x.maxDepth(), 1);
        fuelIs("VALUE BLOCK 1 2", 1, RESULT, 0);
        // It comes before the depth: 16 are active and nothing is left.
        HomeContexts y = check.ready(BLOCKS);
        check.due("run with fuel for 15 blocks", y.run(15, 15), FUEL);
        check.due("fuelLeft", y.fuelLeft(), 0);
        check.due("maxDepth", y.maxDepth(), 16);
    }

    private static void valueSpends() {
        check.sentence(7, "VALUE: the fuel counter decreases by 1");
        HomeContexts x = check.ready(BLOCKS);
        for (int arg = 0; arg <= 14; arg++) {
            check.due("run(" + arg + ", 255)", x.run(arg, 255), RESULT);
            check.due("fuelLeft", x.fuelLeft(), 255 - arg - 1);
            check.due("run(" + arg + ") with the last unit", x.run(arg, arg + 1), RESULT);
            check.due("fuelLeft", x.fuelLeft(), 0);
            check.due("run(" + arg + ") with a unit too little", x.run(arg, arg), FUEL);
        }
    }

    private static void valueTooDeep() {
        check.sentence(7, "VALUE: if 16 activations are active: OUT_DEPTH");
        HomeContexts x = check.ready(BLOCKS);
        check.due("run of the 16th activation", x.run(14, 255), RESULT);
        check.due("resultValue", x.resultValue(), 14);
        check.due("maxDepth", x.maxDepth(), 16);
        check.due("run of the 17th activation", x.run(15, 255), DEPTH);
        check.due("fuelLeft", x.fuelLeft(), 239);
        check.due("maxDepth", x.maxDepth(), 16);
        check.due("run of the 17th activation with its unit the last", x.run(15, 16), DEPTH);
        check.due("fuelLeft", x.fuelLeft(), 0);
        // The arguments of the refused activation have been evaluated.
        HomeContexts y = check.ready("IF VAR:0 CALL:0 SUB VAR:0 1 VALUE SEQ PRINT 1 BLOCK PRINT 3 PRINT 2");
        check.due("run with a refused block", y.run(15, 255), DEPTH);
        check.due("printCount with a refused block", y.printCount(), 2);
        check.due("run with the block the 16th", y.run(14, 255), RESULT);
        check.due("printCount with the block the 16th", y.printCount(), 3);
    }

    private static void callWithoutFuel() {
        check.sentence(7, "CALL m a: evaluate a; if the fuel counter is 0: OUT_FUEL");
        HomeContexts x = check.ran("CALL:1 PRINT 2 PRINT 3", 0, 0, FUEL);
        check.due("printCount", x.printCount(), 1);
        check.due("fuelLeft", x.fuelLeft(), 0);
        check.due("maxDepth", x.maxDepth(), 1);
        fuelIs("CALL:1 2 3", 1, RESULT, 0);
        HomeContexts y = check.ready(CALLS);
        check.due("run with fuel for 15 calls", y.run(16, 15), FUEL);
        check.due("fuelLeft", y.fuelLeft(), 0);
        check.due("maxDepth", y.maxDepth(), 16);
    }

    private static void callSpends() {
        check.sentence(7, "CALL: the fuel counter decreases by 1");
        HomeContexts x = check.ready(CALLS);
        for (int arg = 0; arg <= 15; arg++) {
            check.due("run(" + arg + ", 255)", x.run(arg, 255), RESULT);
            check.due("fuelLeft", x.fuelLeft(), 255 - arg);
            check.due("run(" + arg + ") with the last unit", x.run(arg, arg), RESULT);
            check.due("fuelLeft", x.fuelLeft(), 0);
            if (arg > 0) {
                check.due("run(" + arg + ") with a unit too little", x.run(arg, arg - 1), FUEL);
            }
        }
    }

    private static void callTooDeep() {
        check.sentence(7, "CALL: if 16 activations are active: OUT_DEPTH");
        HomeContexts x = check.ready(CALLS);
        check.due("run of the 16th activation", x.run(15, 255), RESULT);
        check.due("resultValue", x.resultValue(), 15);
        check.due("maxDepth", x.maxDepth(), 16);
        check.due("run of the 17th activation", x.run(16, 255), DEPTH);
        check.due("fuelLeft", x.fuelLeft(), 239);
        check.due("maxDepth", x.maxDepth(), 16);
        check.due("run of the 17th activation with its unit the last", x.run(16, 16), DEPTH);
        check.due("fuelLeft", x.fuelLeft(), 0);
        HomeContexts y = check.ready("IF VAR:0 CALL:0 SUB VAR:0 1 CALL:1 PRINT 2 PRINT 3");
        check.due("run with a refused call", y.run(15, 255), DEPTH);
        check.due("printCount with a refused call", y.printCount(), 1);
        check.due("run with the call the 16th", y.run(14, 255), RESULT);
        check.due("printCount with the call the 16th", y.printCount(), 2);
    }

    /** Every call finds 0 in its other locals, whatever an activation before it has left there. */
    private static void callStartsAnew() {
        check.sentence(7, "CALL: a new activation of method m with L0 = a and L1..L3 = int 0");
        String program = "SEQ SET:1 SET:2 SET:3 BLOCK 1 SEQ CALL:7 5 SEQ CALL:7 BLOCK 1 CALL:7 6 1 2 3 4 5 6"
            + " SEQ SEQ PRINT VAR:0 PRINT VAR:1 SEQ SEQ PRINT VAR:2 PRINT VAR:3 SET:1 SET:2 SET:3 VAR:0";
        HomeContexts x = check.ready(program);
        for (int turn = 0; turn < 2; turn++) {
            check.due("run", x.run(1, 3), RESULT);
            int[] kinds = {INT, INT, INT, INT, BLOCK, INT, INT, INT, INT, INT, INT, INT};
            int[] values = {5, 0, 0, 0, 11, 0, 0, 0, 6, 0, 0, 0};
            for (int i = 0; i < 12; i++) {
                check.due("kind of local " + i % 4 + " in call " + i / 4, x.printKind(i), kinds[i]);
                check.due("value of local " + i % 4 + " in call " + i / 4, x.printValue(i), values[i]);
            }
            check.due("resultValue", x.resultValue(), 6);
        }
    }

    private static void returnInMethod() {
        check.sentence(7, "RET e: In a method activation: that activation returns e at once");
        HomeContexts x = check.ran("ADD 1 CALL:1 5 SEQ PRINT 1 ADD 100 SEQ RET VAR:0 PRINT 2", 0, 9, RESULT);
        check.due("resultValue", x.resultValue(), 6);
        check.due("printCount", x.printCount(), 1);
        check.result("RET RET RET RET RET RET RET 5", 0, 0, INT, 5);
        // From the 16th activation, while as much as can be waits in each below it.
        HomeContexts y = check.ready("IF VAR:0 ADD 1 ADD 1 CALL:0 SUB VAR:0 1 ADD 1 ADD 1 ADD 1 RET 5");
        check.due("run", y.run(15, 15), RESULT);
        check.due("resultValue from the 16th activation", y.resultValue(), 35);
    }

    /**
     * Method 1 goes down by its argument, 13 to 0, and makes the 16th activation of a block; its home is the one
     * of these activations whose argument is the arg of the run. The others above it add one each.
     */
    private static void returnToActiveHome() {
        check.sentence(7, "In a block activation with home h: if h is active, h returns e at once");
        HomeContexts x = check.ready("SEQ GSET:1 VAR:0 ADD CALL:1 13 CALL:1 13"
            + " SEQ IF SUB VAR:0 GLOB:1 0 GSET:0 BLOCK RET PARAM ADD 1 IF VAR:0 CALL:1 SUB VAR:0 1 VALUE GLOB:0 100");
        for (int arg = 0; arg <= 13; arg++) {
            check.due("run to the home " + arg, x.run(arg, 255), RESULT);
            check.due("resultValue from the home " + arg, x.resultValue(), 2 * (113 - arg));
            check.due("fuelLeft", x.fuelLeft(), 225);
            check.due("maxDepth", x.maxDepth(), 16);
        }
        // The home is the first activation, 15 above it end.
        HomeContexts y = check.ready("SEQ GSET:0 BLOCK RET PARAM ADD 1 CALL:1 VAR:0"
            + " IF VAR:0 ADD 1 CALL:1 SUB VAR:0 1 VALUE GLOB:0 100");
        check.due("run to the first activation", y.run(13, 255), RESULT);
        check.due("resultValue of the first activation", y.resultValue(), 100);
        check.due("maxDepth", y.maxDepth(), 16);
        check.due("run one deeper", y.run(14, 255), DEPTH);
    }

    /** Method 2 stores a block of its own and is then unwound; its home has ended, and its place is free. */
    private static void returnUnwinds() {
        check.sentence(7, "every activation started after h and still active ends");
        String unwound = " SEQ CALL:2 BLOCK RET 1 5"
            + " SEQ GSET:0 BLOCK RET 2 VALUE VAR:0 0";
        HomeContexts x = check.ran("SEQ CALL:1 0 VALUE GLOB:0 0" + unwound, 0, 9, CANNOT);
        check.due("fuelLeft", x.fuelLeft(), 5);
        check.due("maxDepth", x.maxDepth(), 4);
        // A later activation in the same place is not that home.
        HomeContexts y = check.ran("SEQ CALL:1 0 CALL:3 0" + unwound + " CALL:4 0 ADD 1 VALUE GLOB:0 0", 0, 9, CANNOT);
        check.due("fuelLeft", y.fuelLeft(), 3);
        // After 16 have been active and were unwound, as many more may start.
        HomeContexts z = check.ready("SEQ CALL:1 0 CALL:2 VAR:0 SEQ GSET:0 BLOCK RET 1 CALL:2 12"
            + " IF VAR:0 CALL:2 SUB VAR:0 1 IF GLOB:1 5 SEQ GSET:1 1 VALUE GLOB:0 0");
        check.due("run with 14 more", z.run(14, 255), RESULT);
        check.due("resultValue", z.resultValue(), 5);
        check.due("maxDepth", z.maxDepth(), 16);
        check.due("fuelLeft", z.fuelLeft(), 255 - 1 - 13 - 1 - 15);
        check.due("run with 15 more", z.run(15, 255), DEPTH);
    }

    private static void returnToEndedHome() {
        check.sentence(7, "if h has ended: OUT_CANNOT_RETURN");
        String[] programs = {
            "VALUE CALL:1 0 PRINT 1 BLOCK RET PRINT 2",
            "VALUE CALL:1 0 PRINT 1 SEQ RET BLOCK RET PRINT 2 3",
            "VALUE CALL:1 0 PRINT 1 VALUE BLOCK RET BLOCK RET PRINT 2 3",
            "VALUE VALUE CALL:1 0 0 PRINT 1 BLOCK BLOCK RET PRINT 2",
        };
        for (String program : programs) {
            HomeContexts x = check.ran(program, 0, 9, CANNOT);
            check.due("printCount of " + program, x.printCount(), 2);
            check.due("resultValue of " + program, x.resultValue(), 0);
        }
        // The same method is active again, but as another activation.
        check.ran("SEQ GSET:0 CALL:1 0 CALL:1 1 IF VAR:0 VALUE GLOB:0 5 BLOCK RET PARAM", 0, 9, CANNOT);
        // The home ended by the block's own first return.
        check.ran("SEQ CALL:1 0 VALUE GLOB:0 1 VALUE GSET:0 BLOCK RET PARAM 0", 0, 9, CANNOT);
        // What the value brings about comes first.
        check.ran("VALUE CALL:1 0 0 BLOCK RET VALUE 1 2", 0, 9, TYPE);
        check.ran("VALUE CALL:1 0 0 BLOCK RET CALL:0 1", 0, 2, FUEL);
        // A block of an ended home that does not return is fine.
        check.result("VALUE CALL:1 4 5 BLOCK ADD VAR:0 PARAM", 0, 9, INT, 9);
    }

    private static void stopKeepsGlobalsAndPrints() {
        check.sentence(7, "the run stops at once; globals and prints keep what they held at that moment");
        String[] stops = {"VALUE 1 2", "ADD BLOCK 1 2", "IF BLOCK 1 2 3", "VALUE GLOB:6 0", "CALL:1 1", "CALL:2 1"};
        int[] outcomes = {TYPE, TYPE, TYPE, CANNOT, DEPTH, FUEL};
        for (int i = 0; i < stops.length; i++) {
            String program = "SEQ SEQ GSET:6 CALL:3 0 GSET:0 PRINT 4 SEQ GSET:1 PRINT " + stops[i] + " GSET:2 PRINT 5"
                + " SEQ CALL:1 1 PRINT 6 SEQ SEQ CALL:3 0 CALL:2 1 PRINT 7 BLOCK RET 3";
            // Method 2 spends two units for each activation that stays, so that a little fuel ends before the depth.
            HomeContexts x = check.ran(program, 0, i == 5 ? 20 : 255, outcomes[i]);
            check.due("printCount at " + stops[i], x.printCount(), 1);
            check.due("printValue(0) at " + stops[i], x.printValue(0), 4);
            check.due("globalValue(0) at " + stops[i], x.globalValue(0), 4);
            check.due("globalValue(1) at " + stops[i], x.globalValue(1), 0);
            check.due("globalValue(2) at " + stops[i], x.globalValue(2), 0);
            check.due("globalKind(6) at " + stops[i], x.globalKind(6), BLOCK);
        }
    }

    private static void stopKeepsFuel() {
        check.sentence(7, "after OUT_DEPTH the unit spent on the refused activation stays spent, and after OUT_FUEL the counter is 0");
        HomeContexts x = check.ready(CALLS);
        HomeContexts y = check.ready(BLOCKS);
        for (int fuel = 0; fuel <= 255; fuel++) {
            check.due("run(99, " + fuel + ")", x.run(99, fuel), fuel < 16 ? FUEL : DEPTH);
            check.due("fuelLeft of calls with " + fuel, x.fuelLeft(), fuel < 16 ? 0 : fuel - 16);
            check.due("run(99, " + fuel + ") of blocks", y.run(99, fuel), fuel < 16 ? FUEL : DEPTH);
            check.due("fuelLeft of blocks with " + fuel, y.fuelLeft(), fuel < 16 ? 0 : fuel - 16);
        }
        fuelIs("SEQ CALL:1 0 ADD 1 BLOCK 1 2", 9, TYPE, 8);
        fuelIs("VALUE CALL:1 0 0 BLOCK RET 1", 9, CANNOT, 7);
    }

    private static void unitMore() {
        check.sentence(7, "run(a, f+1) made in the same state answers the same; fuelLeft() is exactly one greater");
        String[] programs = {States.EVERY_OUTCOME, CALLS, BLOCKS, ALL_FUEL, printing(40)};
        for (String program : programs) {
            HomeContexts x = check.ready(program);
            HomeContexts y = check.ready(program);
            for (int arg : new int[] {MIN, -1, 0, 1, 2, 3, 14, 15, 16}) {
                for (int fuel = 0; fuel <= 254; fuel++) {
                    int outcome = x.run(arg, fuel);
                    int more = y.run(arg, fuel + 1);
                    if (outcome == FUEL) {
                        continue;
                    }
                    check.due("run(" + arg + ", " + (fuel + 1) + ") of " + program, more, outcome);
                    check.same("run(" + arg + ", " + (fuel + 1) + ") of " + program,
                        Check.runAnswers(y), Check.runAnswers(x));
                    check.due("fuelLeft of " + program, y.fuelLeft(), x.fuelLeft() + 1);
                }
            }
        }
    }
}
