/** Promises 8 to 14: the answers after a run. */
public final class AnswersTest {
    private static final Check check = new Check();
    private static final int MIN = Integer.MIN_VALUE;
    private static final int MAX = Integer.MAX_VALUE;

    public static void main(String[] args) {
        outcomes();
        results();
        printCounts();
        printedValues();
        globals();
        fuelLeft();
        maxDepth();
        asNoRun();
        askingChangesNothing();
        check.end();
    }

    private static void outcomes() {
        HomeContexts x = check.ready("IF VAR:0 IF SUB VAR:0 1 IF SUB VAR:0 2 CALL:0 VAR:0 VALUE CALL:1 0 0 ADD 1 BLOCK 1 5 BLOCK RET 1");
        check.due("outcome before a run", x.outcome(), HomeContexts.OUT_NONE);
        check.due("run", x.run(0, 9), HomeContexts.OUT_RESULT);
        check.due("outcome of a result", x.outcome(), HomeContexts.OUT_RESULT);
        check.due("run", x.run(1, 9), HomeContexts.OUT_TYPE);
        check.due("outcome of a wrong kind", x.outcome(), HomeContexts.OUT_TYPE);
        check.due("run", x.run(2, 9), HomeContexts.OUT_CANNOT_RETURN);
        check.due("outcome of a lost home", x.outcome(), HomeContexts.OUT_CANNOT_RETURN);
        check.due("run", x.run(3, 9), HomeContexts.OUT_FUEL);
        check.due("outcome of spent fuel", x.outcome(), HomeContexts.OUT_FUEL);
        check.due("run", x.run(3, 99), HomeContexts.OUT_DEPTH);
        check.due("outcome of great depth", x.outcome(), HomeContexts.OUT_DEPTH);
        check.add(x, "1");
        check.due("run", x.run(0, 9), HomeContexts.OUT_NOT_READY);
        check.due("outcome after a refused run", x.outcome(), HomeContexts.OUT_DEPTH);
        x.clear();
        check.due("outcome after clear", x.outcome(), HomeContexts.OUT_NONE);
    }

    private static void results() {
        for (int number : new int[] {0, 1, -1, MIN, MAX}) {
            check.result("VAR:0", number, 0, HomeContexts.K_INT, number);
        }
        check.result("SEQ 1 SEQ 1 SEQ 1 BLOCK BLOCK 1", 0, 0, HomeContexts.K_BLOCK, 6);
        check.result("VALUE SEQ 1 BLOCK BLOCK 1 0", 0, 1, HomeContexts.K_BLOCK, 4);
        check.result("SEQ CALL:1 0 CALL:1 1 RET IF VAR:0 BLOCK 1 BLOCK 2", 0, 2, HomeContexts.K_BLOCK, 8);
        stoppedResult("SEQ RET VALUE CALL:1 0 0 3 BLOCK RET 4", 9, HomeContexts.OUT_CANNOT_RETURN);
        stoppedResult("CALL:1 7 VAR:0", 0, HomeContexts.OUT_FUEL);
        stoppedResult("ADD 7 BLOCK 1", 9, HomeContexts.OUT_TYPE);
        stoppedResult("CALL:0 7", 99, HomeContexts.OUT_DEPTH);
        lastToken();
    }

    private static void stoppedResult(String program, int fuel, int outcome) {
        HomeContexts x = check.ran(program, 5, fuel, outcome);
        check.due("resultKind of " + program, x.resultKind(), HomeContexts.K_INT);
        check.due("resultValue of " + program, x.resultValue(), 0);
    }

    /** A block at 126, the greatest index that one can have: 2 + 63 + 31 + 15 + 15 tokens stand before it. */
    private static void lastToken() {
        HomeContexts x = check.ready("CALL:5 0 " + Check.sum(5) + Check.sum(4) + Check.sum(3) + Check.sum(3) + "BLOCK 2");
        check.due("tokenCount", x.tokenCount(), 128);
        check.due("run", x.run(0, 1), HomeContexts.OUT_RESULT);
        check.due("resultKind of the last block", x.resultKind(), HomeContexts.K_BLOCK);
        check.due("resultValue of the last block", x.resultValue(), 126);
    }

    private static void printCounts() {
        HomeContexts x = check.ready("IF VAR:0 SEQ PRINT 1 PRINT 2 0");
        check.due("printCount before a run", x.printCount(), 0);
        check.due("run", x.run(1, 0), HomeContexts.OUT_RESULT);
        check.due("printCount of two", x.printCount(), 2);
        check.due("run", x.run(0, 0), HomeContexts.OUT_RESULT);
        check.due("printCount of none", x.printCount(), 0);
        check.due("printKind of none", x.printKind(0), -1);
        check.due("printValue of none", x.printValue(0), 0);
    }

    private static void printedValues() {
        HomeContexts x = check.ran("SEQ PRINT VAR:0 SEQ PRINT BLOCK 1 PRINT -9", MIN, 0, HomeContexts.OUT_RESULT);
        int[][] want = {{0, MIN}, {1, 5}, {0, -9}};
        for (int i = 0; i < 3; i++) {
            check.due("printKind(" + i + ")", x.printKind(i), want[i][0]);
            check.due("printValue(" + i + ")", x.printValue(i), want[i][1]);
        }
        for (int i : new int[] {MIN, -2, -1, 3, 4, 31, 32, 33, 128, MAX}) {
            check.due("printKind(" + i + ")", x.printKind(i), -1);
            check.due("printValue(" + i + ")", x.printValue(i), 0);
        }
        fullPrints();
    }

    private static void fullPrints() {
        // Each call prints its argument and makes two calls with one less.
        String program = "IF VAR:0 SEQ PRINT VAR:0 SEQ CALL:0 SUB VAR:0 1 CALL:0 SUB VAR:0 1 0";
        HomeContexts x = check.ran(program, 6, 255, HomeContexts.OUT_RESULT);
        check.due("printCount of 63 prints", x.printCount(), 32);
        int[] want = {6, 5, 4, 3, 2, 1, 1, 2, 1, 1, 3, 2, 1, 1, 2, 1, 1, 4, 3, 2, 1, 1, 2, 1, 1, 3, 2, 1, 1, 2, 1, 1};
        for (int i = 0; i < 32; i++) {
            check.due("printKind(" + i + ")", x.printKind(i), HomeContexts.K_INT);
            check.due("printValue(" + i + ")", x.printValue(i), want[i]);
        }
        check.due("printKind(32)", x.printKind(32), -1);
        check.due("printValue(32)", x.printValue(32), 0);
        check.due("fuelLeft after 63 prints", x.fuelLeft(), 255 - 126);
    }

    private static void globals() {
        HomeContexts x = check.ran("SEQ GSET:0 VAR:0 SEQ GSET:3 BLOCK 1 SEQ GSET:7 9 SEQ GSET:7 -1 0", MAX, 0,
            HomeContexts.OUT_RESULT);
        int[][] want = {{0, MAX}, {0, 0}, {0, 0}, {1, 5}, {0, 0}, {0, 0}, {0, 0}, {0, -1}};
        for (int i = 0; i < 8; i++) {
            check.due("globalKind(" + i + ")", x.globalKind(i), want[i][0]);
            check.due("globalValue(" + i + ")", x.globalValue(i), want[i][1]);
        }
        for (int i : new int[] {MIN, -2, -1, 8, 9, 128, MAX}) {
            check.due("globalKind(" + i + ")", x.globalKind(i), -1);
            check.due("globalValue(" + i + ")", x.globalValue(i), 0);
        }
    }

    private static void fuelLeft() {
        HomeContexts x = check.ready("IF VAR:0 SEQ CALL:1 0 VALUE BLOCK 1 2 0 3");
        check.due("fuelLeft before a run", x.fuelLeft(), 0);
        check.due("run", x.run(1, 255), HomeContexts.OUT_RESULT);
        check.due("fuelLeft after a call and a block", x.fuelLeft(), 253);
        check.due("run", x.run(0, 255), HomeContexts.OUT_RESULT);
        check.due("fuelLeft after no call", x.fuelLeft(), 255);
        check.due("run", x.run(1, 2), HomeContexts.OUT_RESULT);
        check.due("fuelLeft after the last unit", x.fuelLeft(), 0);
        check.due("run", x.run(1, 1), HomeContexts.OUT_FUEL);
        check.due("fuelLeft after too little", x.fuelLeft(), 0);
    }

    private static void maxDepth() {
        HomeContexts x = check.ready("IF VAR:0 SEQ CALL:1 0 CALL:1 0 3 VALUE BLOCK 1 2");
        check.due("maxDepth before a run", x.maxDepth(), 0);
        check.due("run", x.run(1, 255), HomeContexts.OUT_RESULT);
        check.due("maxDepth of calls in turn", x.maxDepth(), 3);
        check.due("run", x.run(0, 255), HomeContexts.OUT_RESULT);
        check.due("maxDepth of no call", x.maxDepth(), 1);
        check.due("run", x.run(1, 1), HomeContexts.OUT_FUEL);
        check.due("maxDepth without fuel", x.maxDepth(), 2);
        check.due("run", x.run(1, 0), HomeContexts.OUT_FUEL);
        check.due("maxDepth of a refused call", x.maxDepth(), 1);
        // After an unwinding the depth counts from the home again.
        HomeContexts y = check.ran("SEQ CALL:1 0 CALL:2 BLOCK 1 SEQ CALL:2 BLOCK RET 1 2 VALUE VAR:0 3", 0, 9,
            HomeContexts.OUT_RESULT);
        check.due("maxDepth over an unwinding", y.maxDepth(), 4);
        check.due("fuelLeft over an unwinding", y.fuelLeft(), 4);
        unwindingFreesActivations();
    }

    private static void unwindingFreesActivations() {
        // Two ways down to 16 activations, the first of them left by a return from far below.
        String program = "SEQ CALL:1 0 CALL:2 14"
            + " CALL:3 BLOCK RET 1"
            + " IF VAR:0 CALL:2 SUB VAR:0 1 9"
            + " SEQ IF GLOB:1 0 GSET:0 VAR:0 SEQ GSET:1 ADD 1 GLOB:1 IF LESS GLOB:1 13 CALL:3 0 VALUE GLOB:0 0";
        HomeContexts x = check.ran(program, 0, 255,
            HomeContexts.OUT_RESULT);
        check.due("maxDepth of both ways", x.maxDepth(), 16);
        check.due("result of both ways", x.resultValue(), 9);
        check.due("fuelLeft of both ways", x.fuelLeft(), 255 - 1 - 13 - 1 - 15);
    }

    private static void asNoRun() {
        HomeContexts x = new HomeContexts();
        check.add(x, "SEQ PRINT 1 GSET:0 2");
        x.compile();
        check.due("outcome with no run", x.outcome(), HomeContexts.OUT_NONE);
        check.due("resultKind with no run", x.resultKind(), HomeContexts.K_INT);
        check.due("resultValue with no run", x.resultValue(), 0);
        check.due("printCount with no run", x.printCount(), 0);
        check.due("globalValue with no run", x.globalValue(0), 0);
        check.due("fuelLeft with no run", x.fuelLeft(), 0);
        check.due("maxDepth with no run", x.maxDepth(), 0);
    }

    private static void askingChangesNothing() {
        HomeContexts x = check.ran("SEQ PRINT BLOCK 1 SEQ GSET:2 BLOCK 3 SEQ CALL:1 1 BLOCK 4 1", 5, 9,
            HomeContexts.OUT_RESULT);
        String first = Check.allAnswers(x);
        check.same("asking twice", Check.allAnswers(x), first);
        check.due("run after asking", x.run(5, 9), HomeContexts.OUT_RESULT);
        check.same("the run after asking", Check.allAnswers(x), first);
    }
}
