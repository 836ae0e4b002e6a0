import java.io.IOException;
import java.lang.reflect.Method;
import java.lang.reflect.Modifier;
import java.nio.file.Files;
import java.nio.file.Path;
import java.util.Arrays;
import java.util.regex.Matcher;
import java.util.regex.Pattern;

// The example in README.md answers what stands beside it, and every call is told there.
public final class ReadmeTest {
    private static final Pattern EXAMPLE =
            Pattern.compile("(?m)^x\\.(\\w+)\\(([-\\d, ]*)\\); +// (-?\\d+|true|false|AcyclicJoins\\.\\w+)");
    private static final int LEAST_CALLS = 10;

    public static void main(String[] args) throws IOException {
        String text = Files.readString(Path.of("README.md"));
        Checks.sentence("README.md, the example", () -> example(text));
        Checks.sentence("README.md, the calls", () -> everyCall(text));
        Checks.end();
    }

    private static void example(String text) {
        AcyclicJoins x = new AcyclicJoins();
        Matcher line = EXAMPLE.matcher(text);
        int lines = 0;
        while (line.find()) {
            lines++;
            Object got = call(x, line.group(1), numbers(line.group(2)));
            Checks.holds(line.group() + ", answered " + got, got.toString().equals(meant(line.group(3))));
        }
        Checks.holds("the example is found", lines >= LEAST_CALLS);
        Checks.due("lines of the example that are not understood",
                (int) text.lines().filter(l -> l.startsWith("x.")).count() - lines, 0);
    }

    private static Object[] numbers(String list) {
        return Arrays.stream(list.split("[, ]+")).filter(n -> !n.isEmpty()).map(Integer::valueOf).toArray();
    }

    private static Object call(AcyclicJoins x, String name, Object[] arguments) {
        try {
            for (Method m : AcyclicJoins.class.getMethods()) {
                if (m.getName().equals(name)) {
                    return m.invoke(x, arguments);
                }
            }
        } catch (ReflectiveOperationException e) {
            return e;
        }
        return "no such call";
    }

    private static String meant(String word) {
        return switch (word) {
            case "AcyclicJoins.BAD_ARG" -> "-1";
            case "AcyclicJoins.FULL" -> "-2";
            case "AcyclicJoins.NONE" -> "-4";
            default -> word;
        };
    }

    private static void everyCall(String text) {
        for (Method m : AcyclicJoins.class.getDeclaredMethods()) {
            if (Modifier.isPublic(m.getModifiers())) {
                Checks.holds(m.getName() + " is told", text.contains("| `" + m.getName() + "("));
            }
        }
    }
}
