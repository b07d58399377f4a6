import java.io.IOException;
import java.lang.reflect.InvocationTargetException;
import java.lang.reflect.Method;
import java.nio.file.Files;
import java.nio.file.Path;
import java.util.Arrays;
import java.util.regex.Matcher;
import java.util.regex.Pattern;

/** The calls of README.md's example answer as it says there; run it in the project's folder. */
public final class ReadmeTest {
    private static final Pattern SAID = Pattern.compile("new int\\[\\] \\{([-\\d, ]*)\\}");
    private static final Pattern CALL = Pattern.compile(
        "^judge\\.(\\w+)\\(([-\\d, ]*)\\);\\s*// (?:(-?\\d+): |throws (\\w+): )?");

    public static void main(String[] args) throws IOException, IllegalAccessException {
        String text = Files.readString(Path.of("README.md"));
        int from = text.indexOf("```java\n");
        int to = text.indexOf("\n```\n", Math.max(from, 0));
        Checks.that("README.md has an example", from >= 0 && to > from);
        TraceJudge judge = new TraceJudge();
        int calls = 0;
        for (String line : from >= 0 && to > from ? text.substring(from, to).split("\n") : new String[0]) {
            Matcher said = SAID.matcher(line);
            if (said.find()) {
                for (int n : numbers(said.group(1))) {
                    Checks.that("say(" + n + ")", judge.say(n));
                }
            }
            Matcher call = CALL.matcher(line);
            if (call.find()) {
                calls++;
                ask(judge, call);
            }
        }
        Checks.that("the example has calls: " + calls, calls > 10);
        Checks.end();
    }

    private static int[] numbers(String text) {
        return text.isBlank() ? new int[0] : Arrays.stream(text.split(",")).map(String::trim)
            .mapToInt(Integer::parseInt).toArray();
    }

    private static void ask(TraceJudge judge, Matcher call) throws IllegalAccessException {
        int[] numbers = numbers(call.group(2));
        String thrown = null;
        Object answer = null;
        try {
            answer = methodOf(call.group(1)).invoke(judge, Arrays.stream(numbers).boxed().toArray());
        } catch (InvocationTargetException e) {
            thrown = e.getCause().getClass().getSimpleName();
        }
        String due = call.group(4) != null ? "throws " + call.group(4) : String.valueOf(call.group(3));
        String got = thrown != null ? "throws " + thrown : String.valueOf(answer);
        Checks.that(call.group() + " answers " + got, got.equals(due));
    }

    private static Method methodOf(String name) {
        for (Method method : TraceJudge.class.getMethods()) {
            if (method.getName().equals(name)) {
                return method;
            }
        }
        throw new IllegalArgumentException(name);
    }
}
