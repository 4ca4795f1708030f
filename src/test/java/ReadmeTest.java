import java.io.IOException;
import java.lang.reflect.Method;
import java.nio.charset.StandardCharsets;
import java.nio.file.Files;
import java.nio.file.Path;
import java.util.ArrayList;
import java.util.List;
import java.util.regex.Matcher;
import java.util.regex.Pattern;

/** README.md's example, row by row: each answer that it tells is the one that the class gives. */
public final class ReadmeTest {
    private static final Path README = Path.of("README.md");
    private static final Pattern BLOCK = Pattern.compile("(?s)```java\\n(.*?)```");
    /** A call, and behind it what it answers; words behind a colon are for the reader alone. */
    private static final Pattern ROW = Pattern.compile("x\\.(\\w+)\\((.*?)\\);\\s*// (-?\\d+|true|false)(: .*)?");
    private static final String MADE = "StormSlots x = new StormSlots();";
    private static final int FEWEST_ROWS = 20;

    private StormSlots x;
    private int rows;
    private int wrong;

    private void say(String why) {
        wrong++;
        System.out.println("README.md: " + why);
    }

    private void follow(String row) throws ReflectiveOperationException {
        if (row.equals(MADE)) {
            x = new StormSlots();
            return;
        }
        Matcher call = ROW.matcher(row);
        if (x == null || !call.matches()) {
            say("no call with its answer: " + row);
            return;
        }
        rows++;
        String answer = String.valueOf(answerTo(call.group(1), numbers(call.group(2))));
        if (!answer.equals(call.group(3))) say(row + " answered " + answer);
    }

    private Object answerTo(String name, List<Integer> numbers) throws ReflectiveOperationException {
        for (Method m : StormSlots.class.getDeclaredMethods())
            if (m.getName().equals(name) && m.getParameterCount() == numbers.size()) return m.invoke(x, numbers.toArray());
        return "nothing: there is no such call";
    }

    private static List<Integer> numbers(String list) {
        List<Integer> all = new ArrayList<>();
        if (!list.isBlank()) for (String number : list.split(",")) all.add(Integer.decode(number.trim()));
        return all;
    }

    /** Every test of the project is told of by its name, and none that there is not. */
    private void testsAreTold(String readme) throws IOException {
        List<String> told = new ArrayList<>(), there = new ArrayList<>();
        Matcher m = Pattern.compile("(?m)^- `(\\w+Test)`:").matcher(readme);
        while (m.find()) told.add(m.group(1));
        try (var files = Files.list(Path.of("src/test/java"))) {
            files.map(f -> f.getFileName().toString().replace(".java", "")).filter(f -> f.endsWith("Test")).sorted().forEach(there::add);
        }
        told.sort(null);
        if (!told.equals(there)) say("tells of the tests " + told + ", there are " + there);
        if (!readme.contains(".ci/run")) say("does not say how to run the tests");
    }

    public static void main(String[] args) throws IOException, ReflectiveOperationException {
        String readme = Files.readString(README, StandardCharsets.UTF_8);
        ReadmeTest test = new ReadmeTest();
        Matcher block = BLOCK.matcher(readme);
        while (block.find()) for (String row : block.group(1).split("\n")) if (!row.isBlank()) test.follow(row.trim());
        test.testsAreTold(readme);
        if (test.rows < FEWEST_ROWS) test.say("the example has no more than " + test.rows + " calls");
        System.out.println(test.wrong == 0 ? test.rows + " rows of the example are as the class answers" : test.wrong + " are not so");
        if (test.wrong != 0) System.exit(1);
    }
}
