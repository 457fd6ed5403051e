import java.io.IOException;
import java.lang.reflect.InvocationTargetException;
import java.lang.reflect.Method;
import java.lang.reflect.Modifier;
import java.nio.file.Files;
import java.nio.file.Path;
import java.util.Arrays;
import java.util.List;
import java.util.regex.Matcher;
import java.util.regex.Pattern;
import java.util.stream.Stream;

/** README.md: its example answers what it says, and it names all calls and all tests. */
public final class ReadmeTest {
    private static final Path PAGE = Path.of("README.md");
    private static final Path TESTS = Path.of("src/test/java");
    private static final Pattern CALL = Pattern.compile("x\\.(\\w+)\\((-?\\d+)(?:, (-?\\d+))?\\); +// (-?\\d+): .+");

    private static int asked = 0;
    private static int wrong = 0;

    private static void must(boolean holds, String what) {
        asked++;
        if (!holds) {
            wrong++;
            System.out.println("not so: " + what);
        }
    }

    private static List<Method> face() {
        return Arrays.stream(FrozenBits.class.getDeclaredMethods())
            .filter(method -> Modifier.isPublic(method.getModifiers())).toList();
    }

    private static Object answer(FrozenBits x, Matcher call) throws IllegalAccessException, InvocationTargetException {
        for (Method method : face()) {
            if (method.getName().equals(call.group(1))) {
                Integer first = Integer.valueOf(call.group(2));
                return call.group(3) == null ? method.invoke(x, first)
                    : method.invoke(x, first, Integer.valueOf(call.group(3)));
            }
        }
        return "nothing";
    }

    private static void exampleAnswersAsItSays(String page) throws IllegalAccessException, InvocationTargetException {
        int begin = page.indexOf("```java\n");
        int end = page.indexOf("```\n", begin + 1);
        must(begin >= 0 && end > begin, "there is an example");
        if (begin < 0 || end < begin) {
            return;
        }
        FrozenBits x = new FrozenBits();
        String[] lines = page.substring(begin, end).split("\n");
        must(lines.length > 2 && lines[1].startsWith("FrozenBits x = new FrozenBits();"), "it begins with a new object");
        for (int at = 2; at < lines.length; at++) {
            Matcher call = CALL.matcher(lines[at]);
            must(call.matches(), "a call with its answer: " + lines[at]);
            if (call.matches()) {
                Object got = answer(x, call);
                must(got.toString().equals(call.group(4)), lines[at] + " (it answered " + got + ")");
            }
        }
    }

    private static void namesAllCallsAndTests(String page) throws IOException {
        for (Method method : face()) {
            must(page.contains("`" + method.getName() + "`"), "it names " + method.getName());
        }
        try (Stream<Path> tests = Files.list(TESTS)) {
            for (Path test : tests.toList()) {
                String name = test.getFileName().toString().replace(".java", "");
                must(page.contains("- `" + name + "`: "), "it says what " + name + " is for");
            }
        }
        must(page.contains("`bash .ci/run`"), "it says how tests are run");
    }

    public static void main(String[] args) throws Exception {
        String page = Files.readString(PAGE);
        exampleAnswersAsItSays(page);
        namesAllCallsAndTests(page);
        System.out.println(asked + " sayings of README.md: " + wrong + " are not so");
        if (wrong != 0) {
            System.exit(1);
        }
    }
}
