/** The sentences of promises 8 to 14 that name an edge: each has a test of its own. */
public final class AnswerEdgesTest {
    private static final Check check = new Check();
    private static final int MIN = Integer.MIN_VALUE;
    private static final int MAX = Integer.MAX_VALUE;
    private static final int INT = HomeContexts.K_INT;
    private static final int BLOCK = HomeContexts.K_BLOCK;
    private static final int RESULT = HomeContexts.OUT_RESULT;

    public static void main(String[] args) {
        outcomeOfLastAccepted();
        outcomeWithoutRun();
        resultOfTheFirst();
        resultOfAStop();
        resultWithoutRun();
        printCount();
        printCountWithoutRun();
        printsWithin();
        printsOutside();
        printsOfAnEmptyList();
        globalsWithin();
        globalsOutside();
        globalsWithoutRun();
        fuelLeft();
        fuelLeftWithoutRun();
        maxDepth();
        maxDepthWithoutRun();
        askingChangesNothing();
        check.end();
    }

    private static HomeContexts withoutRun(int state) {
        HomeContexts x = States.make(check, state);
        if (x.methodCount() == 0) {
            check.due("run on " + States.name(state), x.run(3, 99), HomeContexts.OUT_NOT_READY);
        }
        return x;
    }

    private static void outcomeOfLastAccepted() {
        check.sentence(8, "outcome() answers the outcome of the last accepted run");
        HomeContexts x = check.ready(States.EVERY_OUTCOME);
        for (int[] first : States.RUNS) {
            for (int[] second : States.RUNS) {
                x.run(first[0], first[1]);
                check.due("outcome of the first run", x.outcome(), first[2]);
                x.run(second[0], second[1]);
                check.due("outcome of the second run", x.outcome(), second[2]);
            }
        }
        for (int[] run : States.RUNS) {
            HomeContexts y = check.ran(States.EVERY_OUTCOME, run[0], run[1], run[2]);
            check.add(y, "ADD");
            check.due("a refused run", y.run(0, 9), HomeContexts.OUT_NOT_READY);
            check.due("outcome after a refused run", y.outcome(), run[2]);
            check.due("a failed compile", y.compile(), HomeContexts.C_INCOMPLETE);
            check.due("outcome after a failed compile", y.outcome(), run[2]);
        }
    }

    private static void outcomeWithoutRun() {
        check.sentence(8, "It answers OUT_NONE if no run has been accepted since clear() (or construction)");
        for (int state : States.WITHOUT_RUN) {
            check.due("outcome of " + States.name(state), withoutRun(state).outcome(), HomeContexts.OUT_NONE);
        }
    }

    /** Of ints the least and the greatest, of blocks the first and the last token that can be one. */
    private static void resultOfTheFirst() {
        check.sentence(9, "after OUT_RESULT, what method 0's first activation returned");
        for (int number : new int[] {MIN, -1, 0, 1, MAX}) {
            check.result("VAR:0", number, 0, INT, number);
            check.result("SUB VAR:0 0", number, 0, INT, number);
        }
        check.result("BLOCK 1", 5, 0, BLOCK, 0);
        check.result("CALL:5 0 " + Check.sum(5) + Check.sum(4) + Check.sum(3) + Check.sum(3) + "BLOCK 2", 5, 1, BLOCK, 126);
        // Later activations of method 0 return too, but not to the result.
        check.result("IF VAR:0 SEQ CALL:0 0 BLOCK 1 BLOCK 2", 5, 1, BLOCK, 5);
        check.result("IF VAR:0 SEQ CALL:0 0 RET -7 BLOCK 2", 5, 1, INT, -7);
    }

    private static void resultOfAStop() {
        check.sentence(9, "after any other outcome, (K_INT, 0)");
        HomeContexts x = check.ready(States.EVERY_OUTCOME);
        for (int[] run : States.RUNS) {
            check.due("run to a block", x.run(0, 9), RESULT);
            check.due("resultKind of a block", x.resultKind(), BLOCK);
            x.run(run[0], run[1]);
            if (run[2] != RESULT) {
                check.due("resultKind of outcome " + run[2], x.resultKind(), INT);
                check.due("resultValue of outcome " + run[2], x.resultValue(), 0);
            }
        }
    }

    private static void resultWithoutRun() {
        check.sentence(9, "With no run since clear(), they answer (K_INT, 0)");
        for (int state : States.WITHOUT_RUN) {
            HomeContexts x = withoutRun(state);
            check.due("resultKind of " + States.name(state), x.resultKind(), INT);
            check.due("resultValue of " + States.name(state), x.resultValue(), 0);
        }
        HomeContexts y = check.ran("BLOCK 1 2", 0, 0, RESULT);
        y.clear();
        check.due("resultKind after clear", y.resultKind(), INT);
        HomeContexts z = check.ran("VAR:0", -3, 0, RESULT);
        z.clear();
        check.due("resultValue after clear", z.resultValue(), 0);
    }

    /** Prints 1, 2, 3 and so on, as often as the arg tells, up to 48: a dozen in each call of method 1. */
    private static HomeContexts printer() {
        return check.ready("SEQ CALL:1 VAR:0 SEQ CALL:1 GLOB:1 SEQ CALL:1 GLOB:1 CALL:1 GLOB:1"
            + " SEQ IF LESS VAR:0 13 GSET:2 VAR:0 GSET:2 12 SEQ GSET:1 SUB VAR:0 GLOB:2 CALL:2 GLOB:2"
            + " IF VAR:0 SEQ PRINT GSET:0 ADD GLOB:0 1 CALL:2 SUB VAR:0 1 0");
    }

    private static void printCount() {
        check.sentence(10, "printCount() answers the number of kept print records of the last run, 0..32");
        HomeContexts x = printer();
        for (int count : new int[] {0, 1, 31, 32, 33, 40, 48, 0, 5}) {
            check.due("run with " + count + " prints", x.run(count, 255), RESULT);
            check.due("printed in all", x.globalValue(0), count);
            check.due("printCount of " + count, x.printCount(), Math.min(count, 32));
        }
    }

    private static void printCountWithoutRun() {
        check.sentence(10, "printCount() is 0 if there was none");
        for (int state : States.WITHOUT_RUN) {
            check.due("printCount of " + States.name(state), withoutRun(state).printCount(), 0);
        }
        HomeContexts x = check.ran("VAR:0", 0, 0, RESULT);
        check.due("printCount of a run without PRINT", x.printCount(), 0);
    }

    private static void printsWithin() {
        check.sentence(11, "printKind(i) and printValue(i) answer record i of the last run, where 0 is the first printed");
        HomeContexts x = printer();
        for (int count : new int[] {48, 32, 31, 1}) {
            check.due("run with " + count + " prints", x.run(count, 255), RESULT);
            for (int i = 0; i < Math.min(count, 32); i++) {
                check.due("printKind(" + i + ") of " + count, x.printKind(i), INT);
                check.due("printValue(" + i + ") of " + count, x.printValue(i), i + 1);
            }
        }
        HomeContexts y = check.ran("SEQ PRINT VAR:0 SEQ PRINT BLOCK 1 PRINT -1", MIN, 0, RESULT);
        check.due("printValue(0)", y.printValue(0), MIN);
        check.due("printKind(1)", y.printKind(1), BLOCK);
        check.due("printValue(1)", y.printValue(1), 5);
        check.due("printKind(2)", y.printKind(2), INT);
        check.due("printValue(2)", y.printValue(2), -1);
    }

    /** The counts rise and fall, so that records of a longer run lie behind those of a shorter one. */
    private static void printsOutside() {
        check.sentence(11, "For i not in 0..printCount()-1, printKind answers -1 and printValue answers 0");
        HomeContexts x = printer();
        for (int count : new int[] {48, 32, 31, 9, 8, 3, 1, 0}) {
            check.due("run with " + count + " prints", x.run(count, 255), RESULT);
            for (int i : States.INDEXES) {
                if (i < 0 || i >= x.printCount()) {
                    check.due("printKind(" + i + ") of " + count, x.printKind(i), -1);
                    check.due("printValue(" + i + ") of " + count, x.printValue(i), 0);
                }
            }
        }
    }

    private static void emptyList(String what, HomeContexts x) {
        for (int i : States.INDEXES) {
            check.due("printKind(" + i + ") " + what, x.printKind(i), -1);
            check.due("printValue(" + i + ") " + what, x.printValue(i), 0);
        }
    }

    private static void printsOfAnEmptyList() {
        check.sentence(11, "including negative i and any i when the list is empty");
        for (int state : States.WITHOUT_RUN) {
            emptyList("of " + States.name(state), withoutRun(state));
        }
        HomeContexts x = check.ran("IF VAR:0 PRINT VAR:0 VAR:0", 7, 0, RESULT);
        check.due("run that prints nothing", x.run(0, 0), RESULT);
        emptyList("of a run that prints nothing", x);
        check.due("run that prints", x.run(7, 0), RESULT);
        x.clear();
        emptyList("after clear", x);
    }

    private static void globalsWithin() {
        check.sentence(12, "globalKind(i) and globalValue(i) answer the kind and value of Gi as the last run left it");
        for (int set = 0; set < 8; set++) {
            HomeContexts x = check.ran("IF VAR:0 GSET:" + set + " VAR:0 GSET:" + set + " BLOCK 1", MIN, 0, RESULT);
            for (int i = 0; i < 8; i++) {
                check.due("globalKind(" + i + ")", x.globalKind(i), INT);
                check.due("globalValue(" + i + ")", x.globalValue(i), i == set ? MIN : 0);
            }
            check.due("run", x.run(0, 0), RESULT);
            for (int i = 0; i < 8; i++) {
                check.due("globalKind(" + i + ")", x.globalKind(i), i == set ? BLOCK : INT);
                check.due("globalValue(" + i + ")", x.globalValue(i), i == set ? 5 : 0);
            }
        }
        HomeContexts y = check.ran("ADD GSET:7 GSET:0 VAR:0 1", MAX, 0, RESULT);
        check.due("globalValue(0)", y.globalValue(0), MAX);
        check.due("globalValue(7)", y.globalValue(7), MAX);
        // A stopped run leaves them too.
        HomeContexts z = check.ran("ADD GSET:7 GSET:0 -1 BLOCK 1", 0, 0, HomeContexts.OUT_TYPE);
        check.due("globalValue(0) of a stopped run", z.globalValue(0), -1);
        check.due("globalValue(7) of a stopped run", z.globalValue(7), -1);
    }

    private static void globalsOutside() {
        check.sentence(12, "For i not in 0..7, globalKind answers -1 and globalValue answers 0");
        for (int state = 0; state < States.COUNT; state++) {
            globalsOutside(States.name(state), States.make(check, state));
        }
        HomeContexts x = check.ran("SEQ GSET:7 GSET:6 GSET:5 GSET:4 BLOCK 1 GSET:3 GSET:2 GSET:1 GSET:0 -1", 0, 0, RESULT);
        for (int i = 0; i < 8; i++) {
            check.due("globalValue(" + i + ")", x.globalValue(i), i < 4 ? -1 : 5);
        }
        globalsOutside("eight globals", x);
    }

    private static void globalsOutside(String what, HomeContexts x) {
        for (int i : States.INDEXES) {
            if (i < 0 || i > 7) {
                check.due("globalKind(" + i + ") of " + what, x.globalKind(i), -1);
                check.due("globalValue(" + i + ") of " + what, x.globalValue(i), 0);
            }
        }
    }

    private static void globalsWithoutRun() {
        check.sentence(12, "with no run since clear(), every global is (K_INT, 0)");
        for (int state : States.WITHOUT_RUN) {
            HomeContexts x = withoutRun(state);
            for (int i = 0; i < 8; i++) {
                check.due("globalKind(" + i + ") of " + States.name(state), x.globalKind(i), INT);
                check.due("globalValue(" + i + ") of " + States.name(state), x.globalValue(i), 0);
            }
        }
        for (int i = 0; i < 8; i++) {
            HomeContexts y = check.ran("GSET:" + i + " BLOCK 1", 0, 0, RESULT);
            y.clear();
            check.due("globalKind(" + i + ") after clear", y.globalKind(i), INT);
            check.due("globalValue(" + i + ") after clear", y.globalValue(i), 0);
        }
    }

    private static void fuelLeft() {
        check.sentence(13, "fuelLeft() answers the fuel counter as the last run left it, in 0..255");
        HomeContexts x = check.ready("IF VAR:0 CALL:0 SUB VAR:0 1 0");
        for (int fuel : new int[] {MIN, -1, 0, 1, 2, 254, 255, 256, MAX}) {
            int clamped = Math.max(0, Math.min(255, fuel));
            check.due("run(0, " + fuel + ")", x.run(0, fuel), RESULT);
            check.due("fuelLeft after run(0, " + fuel + ")", x.fuelLeft(), clamped);
            check.due("run(1, " + fuel + ")", x.run(1, fuel), clamped > 0 ? RESULT : HomeContexts.OUT_FUEL);
            check.due("fuelLeft after run(1, " + fuel + ")", x.fuelLeft(), Math.max(0, clamped - 1));
        }
        check.add(x, "1");
        check.due("a refused run", x.run(0, 9), HomeContexts.OUT_NOT_READY);
        check.due("fuelLeft after a refused run", x.fuelLeft(), 254);
    }

    private static void fuelLeftWithoutRun() {
        check.sentence(13, "fuelLeft() is 0 if there has been no run since clear()");
        for (int state : States.WITHOUT_RUN) {
            check.due("fuelLeft of " + States.name(state), withoutRun(state).fuelLeft(), 0);
        }
        HomeContexts x = check.ran("1", 0, 255, RESULT);
        x.clear();
        check.due("fuelLeft after clear", x.fuelLeft(), 0);
    }

    /** The activations of one after another do not add up, those of one in another do. */
    private static void maxDepth() {
        check.sentence(14, "maxDepth() answers the greatest number of activations active at one time, 1..16");
        HomeContexts x = check.ready("SEQ IF VAR:0 CALL:0 SUB VAR:0 1 0 IF VAR:0 CALL:1 0 0 5");
        for (int arg = 0; arg < 16; arg++) {
            check.due("run(" + arg + ", 255)", x.run(arg, 255), RESULT);
            check.due("maxDepth of run(" + arg + ", 255)", x.maxDepth(), arg + 1);
        }
        check.due("run(16, 255)", x.run(16, 255), HomeContexts.OUT_DEPTH);
        check.due("maxDepth of a refused activation", x.maxDepth(), 16);
        check.due("run(16, 0)", x.run(16, 0), HomeContexts.OUT_FUEL);
        check.due("maxDepth without fuel", x.maxDepth(), 1);
        HomeContexts y = check.ran("VALUE BLOCK CALL:1 1 0 VALUE BLOCK 1 0", 0, 9, RESULT);
        check.due("maxDepth of blocks and calls", y.maxDepth(), 4);
        HomeContexts z = check.ran("RET 5", 0, 0, RESULT);
        check.due("maxDepth of the first activation alone", z.maxDepth(), 1);
    }

    private static void maxDepthWithoutRun() {
        check.sentence(14, "maxDepth() is 0 if there has been no run since clear()");
        for (int state : States.WITHOUT_RUN) {
            check.due("maxDepth of " + States.name(state), withoutRun(state).maxDepth(), 0);
        }
        HomeContexts x = check.ran("1", 0, 255, RESULT);
        x.clear();
        check.due("maxDepth after clear", x.maxDepth(), 0);
    }

    private static void askingChangesNothing() {
        int[] promise = {8, 9, 9, 10, 11, 11, 12, 12, 13, 14};
        for (int question = States.OUTCOME; question <= States.MAX_DEPTH; question++) {
            check.sentence(promise[question - States.OUTCOME], "It changes nothing");
            States.askingKeeps(check, question);
        }
    }
}
