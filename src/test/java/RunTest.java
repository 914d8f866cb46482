/** Promise 7: run. */
public final class RunTest {
    private static final Check check = new Check();
    private static final int MIN = Integer.MIN_VALUE;
    private static final int MAX = Integer.MAX_VALUE;
    private static final int INT = HomeContexts.K_INT;
    private static final int BLOCK = HomeContexts.K_BLOCK;
    private static final int RESULT = HomeContexts.OUT_RESULT;
    private static final int CANNOT = HomeContexts.OUT_CANNOT_RETURN;
    private static final int FUEL = HomeContexts.OUT_FUEL;
    private static final int TYPE = HomeContexts.OUT_TYPE;
    private static final int DEPTH = HomeContexts.OUT_DEPTH;

    public static void main(String[] args) {
        notReady();
        startsAnew();
        clampsFuel();
        keepsProgram();
        numbersAndNames();
        arithmetic();
        conditions();
        sequences();
        prints();
        blocks();
        homes();
        calls();
        returns();
        typeFaults();
        operandOrder();
        fuel();
        depth();
        manyActivations();
        stopping();
        monotonicity();
        check.end();
    }

    private static void prints(String program, int arg, int outcome, int... values) {
        HomeContexts x = check.ran(program, arg, 255, outcome);
        check.due("printCount of " + program, x.printCount(), values.length);
        for (int i = 0; i < values.length; i++) {
            check.due("printValue(" + i + ") of " + program, x.printValue(i), values[i]);
        }
    }

    private static void notReady() {
        HomeContexts x = check.ran("SEQ GSET:1 BLOCK 1 SEQ PRINT 7 CALL:1 4 VAR:0", 5, 9, RESULT);
        check.add(x, "ADD");
        String before = Check.allAnswers(x);
        for (int fuel : new int[] {MIN, -1, 0, 9, 255, MAX}) {
            check.due("run when not ready", x.run(1, fuel), HomeContexts.OUT_NOT_READY);
            check.same("a run when not ready", Check.allAnswers(x), before);
        }
        check.due("compile", x.compile(), HomeContexts.C_INCOMPLETE);
        check.due("run after a failed compile", x.run(1, 1), HomeContexts.OUT_NOT_READY);
        check.same("a run after a failed compile", Check.allAnswers(x), before);
    }

    private static void startsAnew() {
        String program = "SEQ IF VAR:0 SEQ GSET:0 BLOCK 3 SEQ SET:1 8 PRINT 5 0 SEQ PRINT GLOB:0 IF VAR:0 ADD VAR:1 BLOCK 1 VAR:1";
        HomeContexts x = check.ran(program, 1, 9, TYPE);
        check.due("globalKind", x.globalKind(0), BLOCK);
        check.due("second run", x.run(0, 4), RESULT);
        HomeContexts fresh = check.ran(program, 0, 4, RESULT);
        check.same("a second run", Check.allAnswers(x), Check.allAnswers(fresh));
        check.due("globals start anew", x.globalKind(0), INT);
        check.due("prints start anew", x.printCount(), 1);
        check.due("third run", x.run(1, 9), TYPE);
        check.due("result starts anew", x.resultValue(), 0);
        resultStartsAnew();
    }

    private static void resultStartsAnew() {
        HomeContexts x = check.ran("IF VAR:0 BLOCK 1 ADD BLOCK 1 1", 1, 9, RESULT);
        check.due("resultKind", x.resultKind(), BLOCK);
        check.due("resultValue", x.resultValue(), 2);
        check.due("second run", x.run(0, 9), TYPE);
        check.due("resultKind after a stop", x.resultKind(), INT);
        check.due("resultValue after a stop", x.resultValue(), 0);
    }

    private static void clampsFuel() {
        HomeContexts x = check.ready("VAR:0");
        int[][] cases = {{MIN, 0}, {-1, 0}, {0, 0}, {1, 1}, {254, 254}, {255, 255}, {256, 255}, {511, 255}, {MAX, 255}};
        for (int[] one : cases) {
            check.due("run", x.run(1, one[0]), RESULT);
            check.due("fuelLeft after run(1, " + one[0] + ")", x.fuelLeft(), one[1]);
        }
    }

    private static void keepsProgram() {
        HomeContexts x = check.ready("SEQ CALL:1 2 VAR:0 ADD BLOCK 1 1");
        for (int i = 0; i < 3; i++) {
            check.due("run", x.run(1, i), i == 0 ? FUEL : TYPE);
            check.due("methodCount after run", x.methodCount(), 2);
            check.due("tokenCount after run", x.tokenCount(), 8);
        }
    }

    private static void numbersAndNames() {
        for (int number : new int[] {0, 1, -1, 255, MIN, MAX}) {
            check.intResult("VAR:0", number, number);
            check.intResult(String.valueOf(number), 4, number);
            check.intResult("SEQ GSET:5 VAR:0 GLOB:5", number, number);
            check.intResult("VALUE BLOCK PARAM VAR:0", number, number);
        }
        for (int i = 1; i < 4; i++) {
            check.intResult("VAR:" + i, 9, 0);
            check.intResult("SET:" + i + " 6", 9, 6);
            check.intResult("SEQ SET:" + i + " 6 ADD VAR:0 VAR:" + i, 9, 15);
        }
        check.intResult("SEQ SET:0 6 VAR:0", 9, 6);
        prints("SEQ SEQ SEQ SET:0 1 SET:1 2 SEQ SET:2 3 SET:3 4 SEQ SEQ PRINT VAR:0 PRINT VAR:1 SEQ PRINT VAR:2 PRINT VAR:3",
            0, RESULT, 1, 2, 3, 4);
        for (int i = 0; i < 8; i++) {
            check.intResult("GLOB:" + i, 9, 0);
            check.intResult("GSET:" + i + " 6", 9, 6);
            HomeContexts x = check.ran("GSET:" + i + " 6", 0, 0, RESULT);
            for (int j = 0; j < 8; j++) {
                check.due("globalValue(" + j + ")", x.globalValue(j), i == j ? 6 : 0);
            }
        }
    }

    private static void arithmetic() {
        int[] numbers = {0, 1, -1, 2, 7, -8, 65536, 46341, MIN, MAX, MIN + 1};
        for (int a : numbers) {
            for (int b : numbers) {
                check.intResult("ADD VAR:0 " + b, a, a + b);
                check.intResult("SUB VAR:0 " + b, a, a - b);
                check.intResult("MUL VAR:0 " + b, a, a * b);
                check.intResult("LESS VAR:0 " + b, a, a < b ? 1 : 0);
            }
        }
        check.intResult("SUB SUB 10 3 SUB 5 4", 0, 6);
        check.intResult("ADD MUL 2 3 MUL SUB 9 4 5", 0, 31);
    }

    private static void conditions() {
        for (int c : new int[] {1, -1, 2, MIN, MAX}) {
            check.intResult("IF VAR:0 10 20", c, 10);
        }
        check.intResult("IF VAR:0 10 20", 0, 20);
        prints("IF VAR:0 PRINT 1 PRINT 2", 5, RESULT, 1);
        prints("IF VAR:0 PRINT 1 PRINT 2", 0, RESULT, 2);
        check.intResult("ADD IF VAR:0 ADD 1 2 ADD 3 4 100", 1, 103);
        check.intResult("ADD IF VAR:0 ADD 1 2 ADD 3 4 100", 0, 107);
        check.intResult("IF IF VAR:0 0 1 IF 1 2 3 IF 0 4 5", 1, 5);
        check.intResult("IF IF VAR:0 0 1 IF 1 2 3 IF 0 4 5", 0, 2);
        check.result("IF 1 BLOCK 1 2", 0, 0, BLOCK, 2);
    }

    private static void sequences() {
        check.intResult("SEQ 1 2", 0, 2);
        check.intResult("SEQ BLOCK 1 2", 0, 2);
        check.result("SEQ 2 BLOCK 1", 0, 0, BLOCK, 2);
        prints("SEQ SEQ PRINT 1 PRINT 2 SEQ PRINT 3 PRINT 4", 0, RESULT, 1, 2, 3, 4);
    }

    private static void prints() {
        check.intResult("ADD PRINT 4 1", 0, 5);
        HomeContexts x = check.ran("SEQ PRINT BLOCK 1 PRINT PRINT VAR:0", -3, 0, RESULT);
        check.due("printCount", x.printCount(), 3);
        check.due("printKind(0)", x.printKind(0), BLOCK);
        check.due("printValue(0)", x.printValue(0), 2);
        check.due("printKind(1)", x.printKind(1), INT);
        check.due("printValue(1)", x.printValue(1), -3);
        check.due("printValue(2)", x.printValue(2), -3);
        HomeContexts y = check.ran(printing(40), 0, 255, RESULT);
        check.due("printCount of 40", y.printCount(), 32);
        for (int i = 0; i < 32; i++) {
            check.due("printValue(" + i + ") of 40", y.printValue(i), i + 1);
        }
        check.due("result after 40 prints", y.resultValue(), 40);
        check.due("globals after 40 prints", y.globalValue(0), 40);
        HomeContexts z = check.ran(printing(32), 0, 255, RESULT);
        check.due("printCount of 32", z.printCount(), 32);
        check.due("last of 32", z.printValue(31), 32);
    }

    /** Prints the numbers from 1 to count, a multiple of 8, each once. */
    private static String printing(int count) {
        String eight = "CALL:2 0 ";
        for (int level = 0; level < 3; level++) {
            eight = "SEQ " + eight + eight;
        }
        return "SEQ CALL:1 0 ".repeat(count / 8 - 1) + "CALL:1 0 " + eight + "PRINT GSET:0 ADD 1 GLOB:0";
    }

    private static void blocks() {
        check.result("BLOCK 1", 0, 0, BLOCK, 0);
        check.result("SEQ 1 SEQ 2 BLOCK 1", 0, 0, BLOCK, 4);
        check.result("CALL:1 0 BLOCK 1", 0, 1, BLOCK, 2);
        check.result("SEQ SET:2 BLOCK 1 VAR:2", 0, 0, BLOCK, 2);
        check.result("VALUE BLOCK PARAM BLOCK 1", 0, 1, BLOCK, 3);
        check.result("VALUE BLOCK BLOCK 1 0", 0, 1, BLOCK, 2);
        prints("SEQ BLOCK PRINT 1 0", 0, RESULT);
        prints("SEQ VALUE BLOCK PRINT PARAM 4 VALUE BLOCK PRINT ADD PARAM 1 5", 0, RESULT, 4, 6);
        check.intResult("ADD 1 VALUE BLOCK ADD PARAM PARAM 5", 0, 11);
        check.intResult("VALUE VALUE BLOCK BLOCK PARAM 1 2", 0, 2);
        check.intResult("VALUE BLOCK ADD VALUE BLOCK MUL PARAM 10 3 PARAM 4", 0, 34);
        check.intResult("VALUE BLOCK VALUE BLOCK PARAM ADD PARAM 1 4", 0, 5);
        check.intResult("VALUE BLOCK CALL:1 PARAM 4 ADD VAR:0 VAR:1", 0, 4);
    }

    private static void homes() {
        // A block reads and writes the locals of its home, while it is active and after.
        check.intResult("SEQ SET:1 5 SEQ VALUE BLOCK SET:1 ADD VAR:1 PARAM 3 VAR:1", 0, 8);
        check.intResult("SEQ SET:1 5 VALUE BLOCK VALUE BLOCK ADD VAR:1 VAR:0 0 0", 2, 7);
        String counter = "SEQ SET:1 CALL:1 100 SEQ VALUE VAR:1 1 SEQ VALUE VAR:1 2 VALUE VAR:1 3"
            + " BLOCK SET:0 ADD VAR:0 PARAM";
        check.intResult(counter, 7, 106);
        // Two homes of one method keep their locals apart.
        String two = "SEQ SEQ SET:1 CALL:1 100 SET:2 CALL:1 200 SEQ SEQ VALUE VAR:1 1 VALUE VAR:2 2"
            + " SEQ PRINT VALUE VAR:1 0 SEQ PRINT VALUE VAR:2 0 PRINT VAR:0 BLOCK SET:0 ADD VAR:0 PARAM";
        prints(two, 7, RESULT, 101, 202, 7);
        // A block that a block of an ended home makes has that home too.
        check.intResult("VALUE VALUE CALL:1 5 2 3 BLOCK BLOCK ADD VAR:0 PARAM", 1, 8);
        // A block handed to another method uses its own home there.
        check.intResult("SEQ CALL:1 BLOCK SET:1 ADD PARAM VAR:0 VAR:1 SEQ SET:1 50 VALUE VAR:0 VAR:1", 4, 54);
        // A home stays its own while the same method is active again.
        check.intResult("IF LESS VAR:0 2 SEQ SET:1 BLOCK VAR:0 CALL:0 SEQ GSET:0 VAR:1 2 VALUE GLOB:0 0", 1, 1);
    }

    private static void calls() {
        check.intResult("CALL:1 5 ADD VAR:0 VAR:1", 9, 5);
        check.intResult("SEQ SET:1 3 CALL:1 5 ADD VAR:1 ADD VAR:2 VAR:3", 9, 0);
        check.intResult("SEQ CALL:1 5 CALL:1 6 SEQ PRINT VAR:3 SET:3 VAR:0", 9, 6);
        prints("SEQ CALL:1 5 CALL:1 6 SEQ PRINT VAR:3 SET:3 VAR:0", 9, RESULT, 0, 0);
        check.intResult("SEQ CALL:1 5 VAR:0 SET:0 6", 9, 9);
        check.result("CALL:1 BLOCK 1 VAR:0", 9, 9, BLOCK, 1);
        check.intResult("IF LESS VAR:0 1 0 ADD VAR:0 CALL:0 SUB VAR:0 1", 10, 55);
        check.intResult("CALL:1 CALL:1 CALL:1 2 MUL VAR:0 VAR:0", 0, 256);
    }

    private static void returns() {
        check.intResult("RET 5", 0, 5);
        check.result("RET BLOCK 1", 0, 0, BLOCK, 1);
        check.intResult("ADD 1 RET 5", 0, 5);
        prints("SEQ PRINT 1 SEQ RET 2 PRINT 3", 0, RESULT, 1);
        check.intResult("RET RET 5", 0, 5);
        check.intResult("ADD 1 CALL:1 5 ADD 10 MUL 3 RET VAR:0", 0, 6);
        check.intResult("SEQ VALUE BLOCK RET PARAM 5 9", 0, 5);
        check.intResult("ADD 1 VALUE BLOCK ADD 10 RET PARAM 5", 0, 5);
        // Out of nested blocks and calls, past work that waits in each of them.
        check.intResult("ADD 100 CALL:1 4 ADD 1 CALL:2 BLOCK ADD 3 RET PARAM ADD 5 VALUE VAR:0 6", 0, 106);
        check.intResult("ADD 100 CALL:1 4 VALUE BLOCK ADD 1 VALUE BLOCK ADD 1 RET PARAM PARAM 9", 0, 109);
        // After the return the run goes on below the home, with its own locals.
        check.intResult("SEQ SET:1 7 SEQ CALL:1 4 ADD VAR:0 VAR:1 SEQ SET:1 1 SEQ VALUE BLOCK RET 1 2 3", 20, 27);
        // A home that has ended by body, by its own RET, by a block's RET, or by unwinding.
        check.ran("VALUE CALL:1 0 0 BLOCK RET 1", 0, 9, CANNOT);
        check.ran("VALUE CALL:1 0 0 SEQ RET BLOCK RET 1 2", 0, 9, CANNOT);
        check.ran("SEQ CALL:1 0 VALUE GLOB:0 0 SEQ GSET:0 BLOCK RET 1 VALUE BLOCK RET 2 0", 0, 9, CANNOT);
        unwound();
        // A home that has ended is not taken for a later activation at its place.
        check.ran("SEQ SET:1 CALL:1 0 CALL:2 VAR:1 BLOCK RET 1 VALUE VAR:0 0", 0, 9, CANNOT);
        check.ran("SEQ SET:1 CALL:1 0 CALL:1 VAR:1 IF VALUE BLOCK 0 0 0 SEQ IF GLOB:0 VALUE VAR:0 0 GSET:0 1 BLOCK RET 1",
            0, 9, CANNOT);
        // The value is worked out before the home is looked at.
        prints("VALUE CALL:1 0 0 BLOCK RET PRINT 8", 0, CANNOT, 8);
        check.ran("VALUE CALL:1 0 0 BLOCK RET ADD 1 BLOCK 1", 0, 9, TYPE);
        // A block of an ended home may end normally, and what it calls may return.
        check.intResult("VALUE CALL:1 3 4 BLOCK ADD VAR:0 CALL:2 PARAM RET VAR:0", 0, 7);
    }

    private static void unwound() {
        // Method 1 calls 2 with a block that returns from 1; 2 has stored a block of its own, and is unwound.
        String program = "SEQ CALL:1 0 VALUE GLOB:0 0"
            + " SEQ CALL:2 BLOCK RET 1 5"
            + " SEQ GSET:0 BLOCK SEQ PRINT VAR:0 RET 2 VALUE VAR:0 0";
        HomeContexts x = check.ran(program, 0, 9, CANNOT);
        check.due("printKind(0) of an unwound home", x.printKind(0), BLOCK);
        check.due("printValue(0) of an unwound home", x.printValue(0), 8);
        check.due("fuelLeft", x.fuelLeft(), 5);
        check.due("maxDepth", x.maxDepth(), 4);
    }

    private static void typeFaults() {
        for (String kind : new String[] {"ADD", "SUB", "MUL", "LESS"}) {
            check.ran(kind + " BLOCK 1 1", 0, 9, TYPE);
            check.ran(kind + " 1 BLOCK 1", 0, 9, TYPE);
            check.ran(kind + " BLOCK 1 BLOCK 1", 0, 9, TYPE);
            prints(kind + " BLOCK 1 PRINT 3", 0, TYPE, 3);
            check.ran(kind + " BLOCK 1 CALL:0 0", 0, 0, FUEL);
            check.intResult(kind + " BLOCK 1 RET 4", 0, 4);
        }
        check.ran("IF BLOCK 1 2 3", 0, 9, TYPE);
        prints("IF BLOCK 1 PRINT 2 PRINT 3", 0, TYPE);
        check.ran("VALUE 1 2", 0, 9, TYPE);
        check.ran("VALUE 0 2", 0, 9, TYPE);
        prints("VALUE PRINT 1 PRINT 2", 0, TYPE, 1, 2);
        check.intResult("VALUE 1 RET 4", 0, 4);
    }

    private static void operandOrder() {
        for (String kind : new String[] {"ADD", "SUB", "MUL", "LESS", "SEQ"}) {
            prints(kind + " PRINT 1 PRINT 2", 0, RESULT, 1, 2);
        }
        prints("VALUE SEQ PRINT 1 BLOCK PRINT 3 PRINT 2", 0, RESULT, 1, 2, 3);
        prints("IF PRINT 1 PRINT 2 PRINT 3", 0, RESULT, 1, 2);
        check.intResult("SUB SET:0 10 SEQ SET:0 3 VAR:0", 0, 7);
        check.intResult("ADD VAR:0 SET:0 3", 5, 8);
    }

    private static void fuel() {
        HomeContexts x = check.ready("SEQ CALL:1 1 SEQ VALUE BLOCK PRINT PARAM 2 CALL:1 3 PRINT VAR:0");
        for (int fuel = 0; fuel < 6; fuel++) {
            check.due("run with fuel " + fuel, x.run(0, fuel), fuel < 3 ? FUEL : RESULT);
            check.due("printCount with fuel " + fuel, x.printCount(), fuel < 3 ? fuel : 3);
            check.due("fuelLeft with fuel " + fuel, x.fuelLeft(), fuel < 3 ? 0 : fuel - 3);
        }
        // The operands come first, then the kind, then the fuel.
        HomeContexts y = check.ran("VALUE BLOCK 1 PRINT 2", 0, 0, FUEL);
        check.due("printCount", y.printCount(), 1);
        check.ran("VALUE 1 2", 0, 0, TYPE);
        HomeContexts z = check.ran("CALL:0 PRINT 2", 0, 0, FUEL);
        check.due("printCount", z.printCount(), 1);
        // A refused kind spends nothing.
        HomeContexts w = check.ran("VALUE 1 2", 0, 5, TYPE);
        check.due("fuelLeft after a refused kind", w.fuelLeft(), 5);
    }

    private static void depth() {
        // With the first activation and arg calls, arg + 1 are active.
        String down = "IF VAR:0 ADD 1 CALL:0 SUB VAR:0 1 0";
        HomeContexts x = check.ready(down);
        for (int arg = 0; arg < 16; arg++) {
            check.due("run to depth " + arg, x.run(arg, 255), RESULT);
            check.due("result at depth " + arg, x.resultValue(), arg);
            check.due("maxDepth", x.maxDepth(), arg + 1);
            check.due("fuelLeft", x.fuelLeft(), 255 - arg);
        }
        check.due("run too deep", x.run(16, 255), DEPTH);
        check.due("fuelLeft, the refused unit spent", x.fuelLeft(), 255 - 16);
        check.due("maxDepth too deep", x.maxDepth(), 16);
        check.due("run too deep with just enough fuel", x.run(16, 16), DEPTH);
        check.due("fuelLeft", x.fuelLeft(), 0);
        check.due("run too deep with too little fuel", x.run(16, 15), FUEL);
        check.due("fuelLeft", x.fuelLeft(), 0);
        check.due("maxDepth", x.maxDepth(), 16);
        blocksToo();
        muchWaiting();
    }

    // As many tokens as can be wait in each of 16 activations.
    private static void muchWaiting() {
        HomeContexts x = check.ready("IF VAR:0 ADD 1 ADD 1 ADD 1 ADD 1 CALL:0 SUB VAR:0 1 0");
        check.due("run with four sums waiting in each", x.run(15, 15), RESULT);
        check.due("result with four sums waiting in each", x.resultValue(), 60);
        HomeContexts y = check.ready("ADD 1 ".repeat(6) + "CALL:0 VAR:0");
        check.due("run with six sums waiting in each", y.run(0, 255), DEPTH);
        check.due("fuelLeft with six sums waiting in each", y.fuelLeft(), 239);
        HomeContexts z = check.ready("ADD 1 ".repeat(6) + "CALL:1 13"
            + " ADD 1 ADD 1 ADD 1 VALUE BLOCK PARAM IF VAR:0 CALL:1 SUB VAR:0 1 0");
        check.due("run with blocks and calls waiting", z.run(0, 255), RESULT);
        check.due("result with blocks and calls waiting", z.resultValue(), 48);
        check.due("maxDepth with blocks and calls waiting", z.maxDepth(), 16);
    }

    private static void blocksToo() {
        // A block that calls itself through a global, the arg telling how often.
        HomeContexts x = check.ready("SEQ GSET:0 BLOCK IF PARAM ADD 1 VALUE GLOB:0 SUB PARAM 1 0 VALUE GLOB:0 VAR:0");
        check.due("run of blocks to 16", x.run(14, 255), RESULT);
        check.due("result of blocks to 16", x.resultValue(), 14);
        check.due("maxDepth of blocks to 16", x.maxDepth(), 16);
        check.due("run of blocks too deep", x.run(15, 255), DEPTH);
        check.due("fuelLeft of blocks too deep", x.fuelLeft(), 255 - 16);
        check.due("resultValue of blocks too deep", x.resultValue(), 0);
        // The kind is looked at before the depth.
        HomeContexts y = check.ready("IF VAR:0 CALL:0 SUB VAR:0 1 VALUE 1 1");
        check.due("run of a wrong kind at depth 16", y.run(15, 255), TYPE);
        check.due("fuelLeft of a wrong kind at depth 16", y.fuelLeft(), 240);
    }

    private static void manyActivations() {
        // Method 1 calls itself twice for each level: 2 to the 7th less 2 calls, and each home keeps its locals.
        String tree = "CALL:1 6 IF VAR:0 SEQ SET:1 CALL:1 SUB VAR:0 1 SEQ SET:2 CALL:1 SUB VAR:0 1 ADD VAR:1 VAR:2 1";
        HomeContexts x = check.ran(tree, 0, 255, RESULT);
        check.due("result of a tree of calls", x.resultValue(), 64);
        check.due("fuelLeft of a tree of calls", x.fuelLeft(), 128);
        check.due("maxDepth of a tree of calls", x.maxDepth(), 8);
        longRun();
        // All 255 units: the first activation's locals outlive 255 other homes.
        String all = "SEQ SET:1 77 SEQ SET:2 CALL:1 7 SEQ PRINT VAR:1 CALL:1 0"
            + " IF VAR:0 SEQ CALL:1 SUB VAR:0 1 CALL:1 SUB VAR:0 1 1";
        HomeContexts y = check.ran(all, 0, 255, FUEL);
        check.due("printValue after 255 calls", y.printValue(0), 77);
        check.due("fuelLeft after 255 calls", y.fuelLeft(), 0);
        HomeContexts z = check.ran(all.replace("PRINT VAR:1 CALL:1 0", "PRINT VAR:1 VAR:1"), 0, 255, RESULT);
        check.due("result after 255 calls", z.resultValue(), 77);
        check.due("fuelLeft after 255 calls", z.fuelLeft(), 0);
    }

    // All the fuel, and a large body for half of the calls.
    private static void longRun() {
        String program = "CALL:1 7 IF VAR:0 ADD CALL:1 SUB VAR:0 1 CALL:1 SUB VAR:0 1 " + Check.sum(5);
        HomeContexts x = check.ran(program, 0, 255, RESULT);
        check.due("result of a long run", x.resultValue(), 32 * 128);
        check.due("fuelLeft of a long run", x.fuelLeft(), 0);
        check.due("maxDepth of a long run", x.maxDepth(), 9);
    }

    private static void stopping() {
        String program = "SEQ GSET:0 1 SEQ PRINT 1 SEQ GSET:1 ADD BLOCK 1 1 SEQ GSET:2 1 PRINT 2";
        HomeContexts x = check.ran(program, 0, 9, TYPE);
        check.due("globalValue(0) before the stop", x.globalValue(0), 1);
        check.due("globalValue(1) not stored", x.globalValue(1), 0);
        check.due("globalValue(2) after the stop", x.globalValue(2), 0);
        check.due("printCount at the stop", x.printCount(), 1);
        check.due("fuelLeft at the stop", x.fuelLeft(), 9);
        check.due("maxDepth at the stop", x.maxDepth(), 1);
        // A stop inside activations stops all of them.
        HomeContexts y = check.ran("SEQ CALL:1 0 PRINT 2 SEQ VALUE BLOCK VALUE 1 PRINT 1 0 PRINT 3", 0, 9, TYPE);
        check.due("printCount at an inner stop", y.printCount(), 1);
        check.due("fuelLeft at an inner stop", y.fuelLeft(), 7);
        check.due("maxDepth at an inner stop", y.maxDepth(), 3);
        check.due("resultValue at an inner stop", y.resultValue(), 0);
    }

    private static void monotonicity() {
        String[] programs = {
            "VAR:0",
            "IF VAR:0 ADD 1 CALL:0 SUB VAR:0 1 0",
            "SEQ GSET:0 CALL:1 VAR:0 SEQ PRINT VALUE GLOB:0 1 VALUE GLOB:0 5 SEQ SET:1 10 BLOCK IF LESS PARAM 2 SET:1 ADD VAR:1 VAR:0 RET 7",
            "CALL:1 6 IF VAR:0 SEQ SET:1 CALL:1 SUB VAR:0 1 SEQ SET:2 CALL:1 SUB VAR:0 1 PRINT ADD VAR:1 VAR:2 1",
            "SEQ CALL:1 0 ADD 1 GLOB:0 GSET:0 BLOCK 1",
        };
        for (String program : programs) {
            HomeContexts x = check.ready(program);
            HomeContexts y = check.ready(program);
            for (int arg : new int[] {0, 3, 16}) {
                for (int fuel = 0; fuel <= 254; fuel++) {
                    if (x.run(arg, fuel) == FUEL) {
                        continue;
                    }
                    y.run(arg, fuel + 1);
                    check.same("a unit more for " + program, Check.runAnswers(y), Check.runAnswers(x));
                    check.due("fuelLeft with a unit more", y.fuelLeft(), x.fuelLeft() + 1);
                }
            }
        }
    }
}
