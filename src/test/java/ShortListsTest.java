import java.util.Arrays;

/** Promises 3 to 14: every short token list there is, each answer compared with that of the model. */
public final class ShortListsTest {
    private static final Check check = new Check();
    private static final String ARITY = "00101022223211211";
    private static final int ARG = 3;
    private static final int[] FUELS = {0, 1, 2, 40};

    // Every kind; of the names, enough to tell one from another.
    private static final int[][] ALL_KINDS = {
        {0, 0}, {0, 1}, {0, -7}, {1, 0}, {1, 1}, {2, 0}, {2, 1}, {3, 0}, {4, 0}, {5, 0}, {6, 0}, {7, 0}, {8, 0},
        {9, 0}, {10, 0}, {11, 0}, {12, 0}, {13, 0}, {14, 0}, {15, 0}, {15, 1}, {16, 0}
    };

    // What a return from an ended home takes, for it needs at least seven tokens.
    private static final int[][] RETURNING = {
        {1, 0}, {3, 0}, {4, 0}, {11, 0}, {13, 0}, {14, 0}, {15, 0}, {15, 1}, {16, 0}
    };

    private static final int[] outcomes = new int[6];

    public static void main(String[] args) {
        for (int length = 0; length <= 4; length++) {
            lists(ALL_KINDS, new int[length], 0, false);
        }
        for (int length = 5; length <= 7; length++) {
            lists(RETURNING, new int[length], 0, true);
        }
        System.out.println("runs by outcome: " + Arrays.toString(outcomes));
        // The lists are of no use unless they come to every outcome.
        for (int outcome = 1; outcome <= 5; outcome++) {
            check.due("outcome " + outcome + " was seen", outcomes[outcome] > 0, true);
        }
        check.end();
    }

    private static void lists(int[][] alphabet, int[] list, int held, boolean finishedOnly) {
        if (held == list.length) {
            compare(alphabet, list);
            return;
        }
        for (int letter = 0; letter < alphabet.length; letter++) {
            list[held] = letter;
            if (!finishedOnly || canFinish(alphabet, list, held + 1)) {
                lists(alphabet, list, held + 1, finishedOnly);
            }
        }
    }

    /** Whether the tokens left over suffice for what the held ones ask for, in at most two methods. */
    private static boolean canFinish(int[][] alphabet, int[] list, int held) {
        int methods = 0;
        int missing = 0;
        for (int i = 0; i < held; i++) {
            if (missing == 0) {
                methods++;
                missing = 1;
            }
            missing += ARITY.charAt(alphabet[list[i]][0]) - '0' - 1;
        }
        return methods <= 2 && missing <= list.length - held;
    }

    private static void compare(int[][] alphabet, int[] list) {
        HomeContexts x = new HomeContexts();
        Model model = new Model();
        StringBuilder words = new StringBuilder();
        for (int letter : list) {
            int kind = alphabet[letter][0];
            int v = alphabet[letter][1];
            words.append(' ').append(Check.wordOf(kind)).append(':').append(v);
            check.due("addToken of" + words, x.addToken(kind, v), model.addToken(kind, v));
        }
        check.due("compile of" + words, x.compile(), model.compile());
        for (int fuel : FUELS) {
            int want = model.run(ARG, fuel);
            check.due("run with fuel " + fuel + " of" + words, x.run(ARG, fuel), want);
            if (want == HomeContexts.OUT_NOT_READY) {
                break;
            }
            outcomes[want]++;
            check.same("run with fuel " + fuel + " of" + words, Check.allAnswers(x), model.allAnswers());
        }
    }
}
