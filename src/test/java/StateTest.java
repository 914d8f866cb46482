/** Promises 1 and 2: construction and clear. */
public final class StateTest {
    private static final Check check = new Check();

    public static void main(String[] args) {
        newObject();
        clearAfterRun();
        clearAfterStoppedRun();
        clearOfTokensOnly();
        usableAfterClear();
        objectsAreSeparate();
        check.end();
    }

    private static void newObject() {
        HomeContexts x = new HomeContexts();
        check.cleared("of a new object", x);
        check.due("run on a new object", x.run(1, 10), HomeContexts.OUT_NOT_READY);
        check.cleared("of a new object after a refused run", x);
        check.due("compile on a new object", x.compile(), HomeContexts.C_EMPTY);
        check.cleared("of a new object after compile", x);
    }

    private static String busyProgram() {
        return "SEQ GSET:0 BLOCK 1 SEQ GSET:7 5 SEQ PRINT 4 SEQ CALL:1 2 9 VAR:0";
    }

    private static void clearAfterRun() {
        HomeContexts x = check.ran(busyProgram(), 3, 10, HomeContexts.OUT_RESULT);
        check.due("fuelLeft before clear", x.fuelLeft(), 9);
        check.due("maxDepth before clear", x.maxDepth(), 2);
        check.due("resultValue before clear", x.resultValue(), 9);
        x.clear();
        check.cleared("after clear", x);
        check.due("run after clear", x.run(1, 10), HomeContexts.OUT_NOT_READY);
        check.due("compile after clear", x.compile(), HomeContexts.C_EMPTY);
        x.clear();
        check.cleared("after clear twice", x);
    }

    private static void clearAfterStoppedRun() {
        HomeContexts x = check.ran("SEQ PRINT BLOCK 1 ADD GSET:3 BLOCK 2 1", 3, 10, HomeContexts.OUT_TYPE);
        x.clear();
        check.cleared("after clear of a stopped run", x);
    }

    private static void clearOfTokensOnly() {
        HomeContexts x = new HomeContexts();
        check.add(x, "ADD 1");
        x.clear();
        check.cleared("after clear of tokens", x);
    }

    private static void usableAfterClear() {
        HomeContexts x = new HomeContexts();
        for (int i = 0; i < 128; i++) {
            check.due("addToken " + i, x.addToken(HomeContexts.T_NUM, i), true);
        }
        x.clear();
        check.add(x, busyProgram());
        check.due("compile after clear", x.compile(), HomeContexts.C_OK);
        check.due("run after clear", x.run(3, 10), HomeContexts.OUT_RESULT);
        HomeContexts fresh = check.ran(busyProgram(), 3, 10, HomeContexts.OUT_RESULT);
        check.same("a program after clear", Check.allAnswers(x), Check.allAnswers(fresh));
    }

    private static void objectsAreSeparate() {
        HomeContexts x = new HomeContexts();
        HomeContexts y = check.ran(busyProgram(), 3, 10, HomeContexts.OUT_RESULT);
        check.cleared("of one object after work on another", x);
        String before = Check.allAnswers(y);
        x.clear();
        check.same("one object after clear of another", Check.allAnswers(y), before);
    }
}
