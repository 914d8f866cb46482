/** What the tests share: a program written as words, and the counting of wrong answers. */
final class Check {
    private static final String[] WORDS = {
        "NUM", "VAR", "SET", "GLOB", "GSET", "PARAM", "ADD", "SUB", "MUL", "LESS",
        "IF", "SEQ", "PRINT", "BLOCK", "VALUE", "CALL", "RET"
    };

    private int wrong = 0;
    private int asked = 0;
    private String sentence = "";

    /** Names the sentence of the document that the next answers bear on, for the report of a wrong one. */
    void sentence(int promise, String words) {
        sentence = "promise " + promise + ", '" + words + "': ";
    }

    void due(String what, long got, long want) {
        asked++;
        if (got != want) {
            wrong++;
            System.out.println(sentence + what + " answered " + got + ", due is " + want);
        }
    }

    void due(String what, boolean got, boolean want) {
        due(what, got ? 1L : 0L, want ? 1L : 0L);
    }

    void end() {
        System.out.println(asked + " answers, " + wrong + " wrong");
        if (wrong != 0) {
            System.exit(1);
        }
    }

    static int kindOf(String word) {
        for (int kind = 0; kind < WORDS.length; kind++) {
            if (WORDS[kind].equals(word)) {
                return kind;
            }
        }
        throw new IllegalArgumentException(word);
    }

    static String wordOf(int kind) {
        return WORDS[kind];
    }

    /** A sum of as many ones as 2 to the power of levels, with depth levels + 1. */
    static String sum(int levels) {
        String sum = "1 ";
        for (int level = 0; level < levels; level++) {
            sum = "ADD " + sum + sum;
        }
        return sum;
    }

    /** Adds tokens written as words: a kind, or a kind with its v as in NUM:5; a bare number is a NUM. */
    void add(HomeContexts x, String program) {
        for (String word : program.trim().split("\\s+")) {
            int colon = word.indexOf(':');
            if (word.matches("-?[0-9]+")) {
                due("addToken " + word, x.addToken(HomeContexts.T_NUM, Integer.parseInt(word)), true);
            } else if (colon < 0) {
                due("addToken " + word, x.addToken(kindOf(word), 0), true);
            } else {
                int v = Integer.parseInt(word.substring(colon + 1));
                due("addToken " + word, x.addToken(kindOf(word.substring(0, colon)), v), true);
            }
        }
    }

    /** A new object with this program, compiled and ready. */
    HomeContexts ready(String program) {
        HomeContexts x = new HomeContexts();
        add(x, program);
        due("compile of " + program, x.compile(), HomeContexts.C_OK);
        return x;
    }

    /** A new object on which this program has been run. */
    HomeContexts ran(String program, int arg, int fuel, int outcome) {
        HomeContexts x = ready(program);
        due("run(" + arg + ", " + fuel + ") of " + program, x.run(arg, fuel), outcome);
        due("outcome of " + program, x.outcome(), outcome);
        return x;
    }

    void result(String program, int arg, int fuel, int kind, int value) {
        HomeContexts x = ran(program, arg, fuel, HomeContexts.OUT_RESULT);
        due("resultKind of " + program, x.resultKind(), kind);
        due("resultValue of " + program, x.resultValue(), value);
    }

    void intResult(String program, int arg, int value) {
        result(program, arg, HomeContexts.MAX_FUEL, HomeContexts.K_INT, value);
    }

    /** Looks for the state of a new object in everything that can be asked without changing it. */
    void cleared(String when, HomeContexts x) {
        due("tokenCount " + when, x.tokenCount(), 0);
        due("methodCount " + when, x.methodCount(), 0);
        due("outcome " + when, x.outcome(), HomeContexts.OUT_NONE);
        due("resultKind " + when, x.resultKind(), HomeContexts.K_INT);
        due("resultValue " + when, x.resultValue(), 0);
        due("printCount " + when, x.printCount(), 0);
        due("printKind(0) " + when, x.printKind(0), -1);
        due("printValue(0) " + when, x.printValue(0), 0);
        for (int i = 0; i < 8; i++) {
            due("globalKind(" + i + ") " + when, x.globalKind(i), HomeContexts.K_INT);
            due("globalValue(" + i + ") " + when, x.globalValue(i), 0);
        }
        due("fuelLeft " + when, x.fuelLeft(), 0);
        due("maxDepth " + when, x.maxDepth(), 0);
    }

    /** Every answer that a look at the object gives, so that two states can be compared. */
    static String allAnswers(HomeContexts x) {
        return "tokens " + x.tokenCount() + " methods " + x.methodCount() + " " + runAnswers(x)
            + " fuel " + x.fuelLeft();
    }

    /** The answers about the last run but for the fuel left. */
    static String runAnswers(HomeContexts x) {
        StringBuilder all = new StringBuilder();
        all.append("outcome ").append(x.outcome());
        all.append(" result ").append(x.resultKind()).append(',').append(x.resultValue());
        all.append(" prints ").append(x.printCount());
        for (int i = -1; i <= HomeContexts.MAX_PRINTS; i++) {
            all.append(' ').append(x.printKind(i)).append(',').append(x.printValue(i));
        }
        all.append(" globals");
        for (int i = -1; i <= 8; i++) {
            all.append(' ').append(x.globalKind(i)).append(',').append(x.globalValue(i));
        }
        all.append(" depth ").append(x.maxDepth());
        return all.toString();
    }

    void same(String what, String got, String want) {
        asked++;
        if (!got.equals(want)) {
            wrong++;
            System.out.println(sentence + what + " gave\n  " + got + "\n  due is\n  " + want);
        }
    }
}
