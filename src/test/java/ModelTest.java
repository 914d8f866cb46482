import java.util.ArrayList;
import java.util.Arrays;
import java.util.List;

/** All promises: made-up programs and runs of calls, each answer compared with that of the model. */
public final class ModelTest {
    private static final Check check = new Check();
    private static final int[] OFTEN = {0, 1, 1, 2, 3, 3, 4, 5, 6, 7, 8, 9, 10, 11, 11, 12, 13, 13, 13, 14, 14, 14, 15, 15, 15, 16};
    private static final int[] LEAVES = {0, 0, 1, 1, 3, 5, 5};
    private static final int[] ROOTS = {
        HomeContexts.T_SEQ, HomeContexts.T_SEQ, HomeContexts.T_SEQ, HomeContexts.T_BLOCK, HomeContexts.T_VALUE,
        HomeContexts.T_CALL, HomeContexts.T_ADD, HomeContexts.T_RET
    };
    private static final int[] ODD = {Integer.MIN_VALUE, -1, 4, 7, 8, 16, 17, 127, 128, 255, 256, Integer.MAX_VALUE};

    // First operands that keep a run going: blocks where a block is due, stored
    // ones too, and returns inside blocks.
    private static final int[][] FIRST = new int[17][0];

    static {
        FIRST[HomeContexts.T_VALUE] = new int[] {HomeContexts.T_BLOCK, HomeContexts.T_CALL, HomeContexts.T_CALL, HomeContexts.T_GLOB, HomeContexts.T_VAR};
        FIRST[HomeContexts.T_GSET] = new int[] {HomeContexts.T_BLOCK, HomeContexts.T_CALL};
        FIRST[HomeContexts.T_SET] = new int[] {HomeContexts.T_BLOCK, HomeContexts.T_CALL};
        FIRST[HomeContexts.T_BLOCK] = new int[] {HomeContexts.T_RET, HomeContexts.T_RET, HomeContexts.T_SEQ, HomeContexts.T_VALUE};
        FIRST[HomeContexts.T_SEQ] = new int[] {HomeContexts.T_GSET, HomeContexts.T_SET, HomeContexts.T_PRINT, HomeContexts.T_VALUE};
        FIRST[HomeContexts.T_IF] = new int[] {HomeContexts.T_LESS, HomeContexts.T_NUM};
        FIRST[HomeContexts.T_LESS] = new int[] {HomeContexts.T_NUM, HomeContexts.T_VAR};
    }

    // A fixed start, so that every run of this test makes the same calls.
    private static long seed = 20261115L;

    private static int below(int bound) {
        seed = seed * 6364136223846793005L + 1442695040888963407L;
        return (int) ((seed >>> 33) % bound);
    }

    public static void main(String[] args) {
        int[] outcomes = new int[6];
        for (int i = 0; i < 60000; i++) {
            madeProgram(outcomes);
        }
        for (int i = 0; i < 1500; i++) {
            anyCalls();
        }
        System.out.println("runs by outcome: " + Arrays.toString(outcomes));
        // The programs are of no use unless they come to every outcome often.
        for (int outcome = 1; outcome <= 5; outcome++) {
            check.due("outcome " + outcome + " was seen often", outcomes[outcome] >= 1000, true);
        }
        check.end();
    }

    private static void madeProgram(int[] outcomes) {
        int methods = 1 + below(5);
        List<int[]> tokens = new ArrayList<>();
        for (int method = 0; method < methods; method++) {
            // Methods that answer a block are what makes a block outlive its home.
            boolean answersBlock = method > 0 && below(2) == 0;
            int root = answersBlock ? HomeContexts.T_BLOCK : ROOTS[below(ROOTS.length)];
            appendOf(root, tokens, 1, 4 + below(5), false, methods);
        }
        HomeContexts x = new HomeContexts();
        Model model = new Model();
        for (int[] token : tokens) {
            check.due("addToken", x.addToken(token[0], token[1]), model.addToken(token[0], token[1]));
        }
        check.due("compile", x.compile(), model.compile());
        for (int i = 0; i < 3; i++) {
            int arg = below(8) - 2;
            int fuel = i == 0 ? 255 : below(40);
            int want = model.run(arg, fuel);
            check.due("run(" + arg + ", " + fuel + ") of " + words(tokens), x.run(arg, fuel), want);
            check.same("run(" + arg + ", " + fuel + ") of " + words(tokens), Check.allAnswers(x), model.allAnswers());
            if (want > 0) {
                outcomes[want]++;
            }
        }
        unitMore(x, tokens);
    }

    private static void unitMore(HomeContexts x, List<int[]> tokens) {
        int arg = below(8) - 2;
        int fuel = below(255);
        int outcome = x.run(arg, fuel);
        if (outcome == HomeContexts.OUT_FUEL || outcome == HomeContexts.OUT_NOT_READY) {
            return;
        }
        String before = Check.runAnswers(x);
        int left = x.fuelLeft();
        check.due("run with a unit more", x.run(arg, fuel + 1), outcome);
        check.same("a unit more than " + fuel + " for " + words(tokens), Check.runAnswers(x), before);
        check.due("fuelLeft with a unit more", x.fuelLeft(), left + 1);
    }

    private static void append(List<int[]> tokens, int depth, int deepest, boolean inBlock, int methods) {
        int kind = depth >= deepest ? LEAVES[below(LEAVES.length)] : OFTEN[below(OFTEN.length)];
        if (kind == HomeContexts.T_PARAM && !inBlock) {
            kind = HomeContexts.T_VAR;
        }
        appendOf(kind, tokens, depth, deepest, inBlock, methods);
    }

    private static void appendOf(int kind, List<int[]> tokens, int depth, int deepest, boolean inBlock, int methods) {
        tokens.add(new int[] {kind, valueFor(kind, methods)});
        int arity = "00101022223211211".charAt(kind) - '0';
        for (int i = 0; i < arity; i++) {
            boolean inside = inBlock || kind == HomeContexts.T_BLOCK;
            if (i == 0 && depth + 1 < deepest && below(8) > 0 && FIRST[kind].length > 0) {
                int first = FIRST[kind][below(FIRST[kind].length)];
                appendOf(first, tokens, depth + 1, deepest, inside, methods);
            } else {
                append(tokens, depth + 1, deepest, inside, methods);
            }
        }
    }

    // Few names, so that what is stored is also read.
    private static int valueFor(int kind, int methods) {
        switch (kind) {
            case HomeContexts.T_NUM: return below(20) == 0 ? ODD[below(ODD.length)] : below(5) - 1;
            case HomeContexts.T_VAR:
            case HomeContexts.T_SET: return below(5) == 0 ? below(4) : below(2);
            case HomeContexts.T_GLOB:
            case HomeContexts.T_GSET: return below(5) == 0 ? below(8) : below(2);
            case HomeContexts.T_CALL: return methods > 1 && below(6) > 0 ? 1 + below(methods - 1) : 0;
            default: return below(3);
        }
    }

    private static String words(List<int[]> tokens) {
        StringBuilder words = new StringBuilder();
        for (int[] token : tokens) {
            words.append(Check.wordOf(token[0])).append(':').append(token[1]).append(' ');
        }
        return words.toString();
    }

    private static void anyCalls() {
        HomeContexts x = new HomeContexts();
        Model model = new Model();
        for (int i = 0; i < 150; i++) {
            int call = below(40);
            if (call == 0) {
                x.clear();
                model.clear();
            } else if (call < 8) {
                check.due("compile", x.compile(), model.compile());
            } else if (call < 14) {
                int arg = below(6) - 2;
                int fuel = below(4) == 0 ? ODD[below(ODD.length)] : below(30);
                check.due("run", x.run(arg, fuel), model.run(arg, fuel));
            } else if (call < 18) {
                int kind = below(2) == 0 ? below(17) : ODD[below(ODD.length)];
                int v = ODD[below(ODD.length)];
                check.due("addToken(" + kind + ", " + v + ")", x.addToken(kind, v), model.addToken(kind, v));
            } else {
                int kind = call < 30 ? LEAVES[below(LEAVES.length)] : below(17);
                int v = valueFor(kind, 2);
                check.due("addToken(" + kind + ", " + v + ")", x.addToken(kind, v), model.addToken(kind, v));
            }
            check.same("a run of calls", Check.allAnswers(x), model.allAnswers());
        }
    }
}
