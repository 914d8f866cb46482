import java.io.IOException;
import java.nio.file.Files;
import java.nio.file.Path;
import java.util.regex.Matcher;
import java.util.regex.Pattern;

/** README.md: its examples give what it says they give, and its tables name each constant with its number. */
public final class ReadmeTest {
    private static final Check check = new Check();

    public static void main(String[] args) throws IOException, ReflectiveOperationException {
        String readme = Files.readString(Path.of("README.md"));
        check.due("sum of the first example", firstExample(), 7);
        check.due("found of the second example", secondExample(), 5);
        thirdExample();
        examplesAreThese(readme);
        constants(readme);
        tests(readme);
        check.end();
    }

    private static int firstExample() {
        HomeContexts x = new HomeContexts();
        x.addToken(HomeContexts.T_ADD, 0);      // method 0: L0 + 2
        x.addToken(HomeContexts.T_VAR, 0);
        x.addToken(HomeContexts.T_NUM, 2);
        if (x.compile() == HomeContexts.C_OK
                && x.run(5, 100) == HomeContexts.OUT_RESULT) {
            int sum = x.resultValue();          // 7
            return sum;
        }
        return -1;
    }

    private static int secondExample() {
        HomeContexts x = new HomeContexts();
        x.addToken(HomeContexts.T_SEQ, 0);      // method 0: CALL 1 [ RET PARAM ], then 9
        x.addToken(HomeContexts.T_CALL, 1);
        x.addToken(HomeContexts.T_BLOCK, 0);
        x.addToken(HomeContexts.T_RET, 0);
        x.addToken(HomeContexts.T_PARAM, 0);
        x.addToken(HomeContexts.T_NUM, 9);
        x.addToken(HomeContexts.T_VALUE, 0);    // method 1: the block in L0, with 5
        x.addToken(HomeContexts.T_VAR, 0);
        x.addToken(HomeContexts.T_NUM, 5);
        if (x.compile() == HomeContexts.C_OK
                && x.run(0, 100) == HomeContexts.OUT_RESULT) {
            int found = x.resultValue();        // 5: the 9 is never reached
            check.due("fuelLeft of the second example", x.fuelLeft(), 98);
            check.due("maxDepth of the second example", x.maxDepth(), 3);
            return found;
        }
        return -1;
    }

    private static void thirdExample() {
        check.ran("VALUE CALL:1 0 5 BLOCK RET PARAM", 0, 100, HomeContexts.OUT_CANNOT_RETURN);
    }

    // Else an example on the page could change and this test would go on with the old one.
    private static void examplesAreThese(String readme) throws IOException {
        String here = Files.readString(Path.of("src/test/java/ReadmeTest.java"));
        Matcher example = Pattern.compile("```java\n(.*?)```", Pattern.DOTALL).matcher(readme);
        int examples = 0;
        while (example.find()) {
            examples++;
            for (String line : example.group(1).split("\n")) {
                check.due("README.md's line '" + line + "' is tested", here.contains(line.trim()), true);
            }
        }
        check.due("examples in Java", examples, 2);
    }

    private static void constants(String readme) throws ReflectiveOperationException {
        Matcher row = Pattern.compile("\\| `((?:T|K|C|OUT|MAX)_[A-Z_]+)` \\| (-?\\d+) \\|").matcher(readme);
        int rows = 0;
        while (row.find()) {
            rows++;
            int number = HomeContexts.class.getField(row.group(1)).getInt(null);
            check.due(row.group(1) + " in README.md", Integer.parseInt(row.group(2)), number);
        }
        check.due("constants in README.md", rows, HomeContexts.class.getFields().length);
    }

    private static void tests(String readme) throws IOException {
        try (var files = Files.newDirectoryStream(Path.of("src/test/java"), "*Test.java")) {
            for (Path file : files) {
                String name = file.getFileName().toString().replace(".java", "");
                check.due(name + " is in README.md", readme.contains("| `" + name + "` |"), true);
            }
        }
    }
}
