import java.io.IOException;
import java.lang.reflect.Field;
import java.lang.reflect.Method;
import java.lang.reflect.Modifier;
import java.nio.file.Files;
import java.nio.file.Path;
import java.util.Arrays;
import java.util.List;
import java.util.Map;
import java.util.Set;
import java.util.TreeMap;
import java.util.TreeSet;
import java.util.regex.Matcher;
import java.util.regex.Pattern;

// The public face of the document, and the rules of LANGUAGE.md that a program can look for.
public final class FaceTest {
    private static final Path SOURCE = Path.of("src/main/java/AcyclicJoins.java");
    private static final Set<String> FACE = new TreeSet<>(List.of(
            "int put(int, int, int)", "int drop(int, int, int)", "int clear(int)", "int rows(int)",
            "int count()", "int answer(int)", "boolean has(int)", "int rank(int)", "int useful(int)",
            "int weight(int, int, int)", "int gain(int, int, int)", "int values(int)",
            "int with(int, int)", "int ends()", "int sum()"));
    private static final Set<String> CONSTANTS = new TreeSet<>(List.of("int BAD_ARG", "int FULL", "int NONE"));
    private static final int MOST_DEPTH = 6;
    private static final int MOST_LINES = 60;
    private static final int MOST_FIELDS = 40;
    private static final Pattern METHOD =
            Pattern.compile("(?ms)^    (?:public|private)(?: static)? \\w+ (\\w+)\\([^)]*\\) \\{$(.*?)^    \\}$");
    private static final Pattern CALL = Pattern.compile("\\b(\\w+)\\(");
    private static final Pattern NESTED_CALL =
            Pattern.compile("\\b(?!(?:if|for|while|switch|return)\\b)\\w+\\([^(){};]*\\b\\w+\\(");
    // With < the loop ends whatever the bound is; <= would not at the greatest int.
    private static final Pattern LOOP =
            Pattern.compile("\\bfor \\(int (\\w+) = [^;]+; \\1 < (\\w+); \\1\\+\\+\\) \\{");
    private static final Pattern LOOP_WORD = Pattern.compile("\\b(for|while|do)\\b");
    private static final Pattern RULED_OUT = Pattern.compile("\\b(package|import|float|double|String|Math|Integer"
            + "|Long|System|Arrays|Object|throw|throws|try|catch|finally|synchronized|assert|instanceof|null"
            + "|interface|enum|record|protected|getClass|hashCode|equals|toString)\\b|->|::|\"|\\]\\s*\\[");

    public static void main(String[] args) throws IOException {
        String source = Files.readString(SOURCE).replaceAll("(?s)/\\*.*?\\*/", "").replaceAll("//[^\n]*", "");
        Checks.sentence("The public face, and rules 1, 2, 4 and 5", FaceTest::face);
        Checks.sentence("LANGUAGE.md, rules 2, 3 and 6", () -> words(source));
        Checks.sentence("LANGUAGE.md, rule 4", () -> arrays(source));
        Checks.sentence("LANGUAGE.md, rules 7 and 8: every loop ends", () -> loops(source));
        Checks.sentence("LANGUAGE.md, rules 8 and 10: calls", () -> calls(source));
        Checks.sentence("LANGUAGE.md, rule 10: methods stay short", () -> lengths(source));
        Checks.end();
    }

    private static void face() {
        Class<?> type = AcyclicJoins.class;
        Checks.holds("the class is public and final", type.getModifiers() == (Modifier.PUBLIC | Modifier.FINAL));
        Checks.holds("no nested classes", type.getDeclaredClasses().length == 0);
        Checks.holds("extends nothing", type.getSuperclass() == Object.class && type.getInterfaces().length == 0);
        Checks.holds("one constructor, public, without arguments", type.getDeclaredConstructors().length == 1
                && type.getConstructors().length == 1 && type.getConstructors()[0].getParameterCount() == 0);
        methods(type);
        fields(type);
    }

    private static void methods(Class<?> type) {
        Set<String> seen = new TreeSet<>();
        Set<String> publicNames = new TreeSet<>();
        for (Method m : type.getDeclaredMethods()) {
            if (!Modifier.isPrivate(m.getModifiers())) {
                Checks.holds(m + " is public and not static", m.getModifiers() == Modifier.PUBLIC);
                String arguments = Arrays.toString(m.getParameterTypes());
                seen.add(m.getReturnType() + " " + m.getName()
                        + "(" + arguments.substring(1, arguments.length() - 1) + ")");
                publicNames.add(m.getName());
            }
        }
        Checks.holds("public methods are " + FACE + ", found " + seen, seen.equals(FACE));
        for (Method m : type.getDeclaredMethods()) {
            Checks.holds(m + " has at most seven parameters", m.getParameterCount() <= 7);
            Checks.holds(m + " answers no array", !m.getReturnType().isArray());
            if (Modifier.isPrivate(m.getModifiers())) {
                Checks.holds(m + " bears no public name", !publicNames.contains(m.getName()));
            }
        }
    }

    private static void fields(Class<?> type) {
        Set<String> seen = new TreeSet<>();
        Checks.holds("at most " + MOST_FIELDS + " fields beside the constants", Arrays.stream(type.getDeclaredFields())
                .filter(f -> !Modifier.isStatic(f.getModifiers())).count() <= MOST_FIELDS);
        for (Field f : type.getDeclaredFields()) {
            Class<?> of = f.getType();
            Class<?> item = of.isArray() ? of.getComponentType() : of;
            Checks.holds(f + " is of a plain type",
                    item.isPrimitive() && item != float.class && item != double.class);
            if (Modifier.isStatic(f.getModifiers())) {
                Checks.holds(f + " is a constant of int or long",
                        Modifier.isFinal(f.getModifiers()) && (of == int.class || of == long.class));
            }
            if (!Modifier.isPrivate(f.getModifiers())) {
                Checks.holds(f + " is a public constant",
                        f.getModifiers() == (Modifier.PUBLIC | Modifier.STATIC | Modifier.FINAL));
                seen.add(of + " " + f.getName());
            }
        }
        Checks.holds("public constants are " + CONSTANTS + ", found " + seen, seen.equals(CONSTANTS));
    }

    private static void words(String source) {
        Matcher m = RULED_OUT.matcher(source);
        while (m.find()) {
            Checks.holds("the source does without " + m.group(), false);
        }
    }

    private static void arrays(String source) {
        String rest = source.replaceAll("(?m)^    private final \\w+\\[\\] \\w+ = new \\w+\\[\\w+\\];$", "");
        Checks.holds("arrays are made in the fields' initialisers alone", !rest.matches("(?s).*\\bnew\\b.*"));
    }

    private static void calls(String source) {
        Matcher nested = NESTED_CALL.matcher(source);
        while (nested.find()) {
            Checks.holds("no call stands inside the arguments of another: " + nested.group(), false);
        }
        Map<String, Set<String>> callees = callees(bodies(source));
        Set<String> declared = new TreeSet<>();
        for (Method m : AcyclicJoins.class.getDeclaredMethods()) {
            declared.add(m.getName());
        }
        Checks.holds("all methods are found in the source", callees.keySet().equals(declared));
        for (String name : callees.keySet()) {
            Checks.holds(name + " goes at most six calls deep", depth(name, callees, 0) <= MOST_DEPTH);
        }
    }

    // A loop counts up to a bound, and neither changes on the way.
    private static void loops(String source) {
        for (String body : bodies(source).values()) {
            Matcher loop = LOOP.matcher(body);
            int plain = 0;
            while (loop.find()) {
                plain++;
                Checks.due("assignments to the counter of " + loop.group(), assignments(loop.group(1), body),
                        loopsOver(loop.group(1), body));
                Checks.holds("the bound stays in " + loop.group(), assignments(loop.group(2), body) <= 1);
            }
            Checks.due("loops that are no plain count in:" + body,
                    (int) LOOP_WORD.matcher(body).results().count() - plain, 0);
        }
    }

    // A counter is set and counted up in the head of its loop, and nowhere else.
    private static int loopsOver(String counter, String body) {
        return 2 * (int) LOOP.matcher(body).results().filter(m -> m.group(1).equals(counter)).count();
    }

    private static int assignments(String name, String body) {
        String change = "(\\+\\+|--)\\s*\\b" + name + "\\b|\\b" + name + "\\s*(\\+\\+|--|(<<|>>>?|[-+*/%&|^])?=(?!=))";
        return (int) Pattern.compile(change).matcher(body).results().count();
    }

    private static void lengths(String source) {
        bodies(source).forEach((name, body) ->
                Checks.holds(name + " has at most " + MOST_LINES + " lines", body.lines().count() <= MOST_LINES));
    }

    /** Every method of the source with what stands between its braces. */
    private static Map<String, String> bodies(String source) {
        Map<String, String> bodies = new TreeMap<>();
        Matcher method = METHOD.matcher(source);
        while (method.find()) {
            bodies.put(method.group(1), method.group(2));
        }
        return bodies;
    }

    /** The methods that each method of the source calls. */
    private static Map<String, Set<String>> callees(Map<String, String> bodies) {
        Map<String, Set<String>> callees = new TreeMap<>();
        for (String name : bodies.keySet()) {
            Set<String> called = new TreeSet<>();
            Matcher call = CALL.matcher(bodies.get(name));
            while (call.find()) {
                called.add(call.group(1));
            }
            called.retainAll(bodies.keySet());
            callees.put(name, called);
        }
        return callees;
    }

    // A method that calls itself, on whatever way, is deeper than any limit.
    private static int depth(String name, Map<String, Set<String>> callees, int above) {
        int deepest = 0;
        if (above <= MOST_DEPTH) {
            for (String callee : callees.get(name)) {
                deepest = Math.max(deepest, depth(callee, callees, above + 1));
            }
        }
        return 1 + deepest;
    }
}
