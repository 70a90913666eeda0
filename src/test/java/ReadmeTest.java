import java.io.IOException;
import java.lang.reflect.Method;
import java.lang.reflect.Modifier;
import java.nio.file.Files;
import java.nio.file.Path;
import java.util.List;
import java.util.regex.Matcher;
import java.util.regex.Pattern;
import java.util.stream.Collectors;
import java.util.stream.Stream;

/** What README.md tells: each answer of its example, every call of the face, every test of the project. */
public final class ReadmeTest {
    private static final Path README = Path.of("README.md");
    private static final Path TESTS = Path.of("src/test/java");
    private static final Pattern TEXT = Pattern.compile("for \\(char sign : \"([^\"]*)\"");
    private static final Pattern CALL = Pattern.compile("x\\.(\\w+)\\(([-\\d, ]*)\\); +// (-?\\d+):.*");

    public static void main(String[] args) throws IOException {
        Check check = new Check("ReadmeTest");
        String readme = Files.readString(README);
        example(check, exampleOf(readme));
        calls(check, readme);
        tests(check, readme);
        check.end();
    }

    private static String exampleOf(String readme) {
        String head = "```java\n";
        int from = readme.indexOf(head);
        int to = readme.indexOf("\n```", from + head.length());
        return from < 0 || to < 0 ? "" : readme.substring(from + head.length(), to);
    }

    private static void example(Check check, String example) {
        LetterExchange x = new LetterExchange();
        Matcher text = TEXT.matcher(example);
        check.holds("the example tells a text", text.find());
        Check.feed(x, text.group(1));
        int told = 0;
        for (String line : example.split("\n")) {
            if (!line.startsWith("x.")) continue;
            Matcher call = CALL.matcher(line);
            check.holds("a call with its answer: " + line, call.matches());
            check.due(line, Check.call(x, call.group(1), numbers(call.group(2))), Integer.parseInt(call.group(3)));
            told++;
        }
        check.holds("the example has calls", told > 0);
    }

    private static int[] numbers(String list) {
        return Stream.of(list.split(",")).map(String::trim).filter(one -> !one.isEmpty())
                .mapToInt(Integer::parseInt).toArray();
    }

    private static void calls(Check check, String readme) {
        for (Method method : LetterExchange.class.getDeclaredMethods()) {
            if (!Modifier.isPublic(method.getModifiers())) continue;
            Matcher row = Pattern.compile("\\| `" + method.getName() + "\\(([^)]*)\\)` \\|").matcher(readme);
            boolean found = row.find();
            check.holds(method.getName() + " has a row", found);
            if (!found) continue;
            int numbers = row.group(1).isEmpty() ? 0 : row.group(1).split(",").length;
            check.due("the numbers that " + method.getName() + " takes", numbers, method.getParameterCount());
        }
    }

    private static void tests(Check check, String readme) throws IOException {
        List<String> names;
        try (Stream<Path> files = Files.list(TESTS)) {
            names = files.map(file -> file.getFileName().toString()).filter(name -> name.endsWith("Test.java"))
                    .map(name -> name.replace(".java", "")).sorted().collect(Collectors.toList());
        }
        for (String name : names) {
            check.holds(name + " is told", readme.contains("`" + name + "`"));
        }
    }
}
