import java.io.IOException;
import java.lang.reflect.Field;
import java.lang.reflect.Method;
import java.lang.reflect.Modifier;
import java.nio.file.Files;
import java.nio.file.Path;
import java.util.Arrays;
import java.util.List;
import java.util.Set;
import java.util.TreeSet;
import java.util.regex.Matcher;
import java.util.regex.Pattern;

// The public face of the document, and the rules of LANGUAGE.md that a program can look for.
public final class FaceTest {
    private static final Path SOURCE = Path.of("src/main/java/AcyclicJoins.java");
    private static final Set<String> FACE = new TreeSet<>(List.of(
            "int put(int, int, int)", "int drop(int, int, int)", "int clear(int)", "int rows(int)",
            "int count()", "int answer(int)", "boolean has(int)", "int rank(int)", "int useful(int)",
            "int weight(int, int, int)", "int gain(int, int, int)", "int values(int)",
            "int with(int, int)", "int ends()", "int sum()"));
    private static final Set<String> CONSTANTS = new TreeSet<>(List.of("int BAD_ARG", "int FULL", "int NONE"));
    private static final Pattern RULED_OUT = Pattern.compile("\\b(package|import|float|double|String|Math|Integer"
            + "|Long|System|Arrays|Object|throw|throws|try|catch|finally|synchronized|assert|instanceof|null"
            + "|interface|enum|record|protected|getClass|hashCode|equals|toString)\\b|->|::|\"|\\]\\s*\\[");

    private static int wrong = 0;

    public static void main(String[] args) throws IOException {
        Class<?> type = AcyclicJoins.class;
        check("the class is public and final", type.getModifiers() == (Modifier.PUBLIC | Modifier.FINAL));
        check("no nested classes", type.getDeclaredClasses().length == 0);
        check("extends nothing", type.getSuperclass() == Object.class && type.getInterfaces().length == 0);
        check("one constructor, public, without arguments", type.getDeclaredConstructors().length == 1
                && type.getConstructors().length == 1 && type.getConstructors()[0].getParameterCount() == 0);
        methods(type);
        fields(type);
        source();
        System.out.println(wrong == 0 ? "the face is as due" : wrong + " things are not as due");
        if (wrong != 0) {
            System.exit(1);
        }
    }

    private static void check(String what, boolean holds) {
        if (!holds) {
            wrong++;
            System.out.println("not so: " + what);
        }
    }

    private static void methods(Class<?> type) {
        Set<String> seen = new TreeSet<>();
        Set<String> publicNames = new TreeSet<>();
        for (Method m : type.getDeclaredMethods()) {
            if (!Modifier.isPrivate(m.getModifiers())) {
                check(m + " is public and not static", m.getModifiers() == Modifier.PUBLIC);
                String arguments = Arrays.toString(m.getParameterTypes());
                seen.add(m.getReturnType() + " " + m.getName()
                        + "(" + arguments.substring(1, arguments.length() - 1) + ")");
                publicNames.add(m.getName());
            }
        }
        check("public methods are " + FACE + ", found " + seen, seen.equals(FACE));
        for (Method m : type.getDeclaredMethods()) {
            check(m + " has at most seven parameters", m.getParameterCount() <= 7);
            check(m + " answers no array", !m.getReturnType().isArray());
            if (Modifier.isPrivate(m.getModifiers())) {
                check(m + " bears no public name", !publicNames.contains(m.getName()));
            }
        }
    }

    private static void fields(Class<?> type) {
        Set<String> seen = new TreeSet<>();
        for (Field f : type.getDeclaredFields()) {
            Class<?> of = f.getType();
            Class<?> item = of.isArray() ? of.getComponentType() : of;
            check(f + " is of a plain type",
                    item.isPrimitive() && item != float.class && item != double.class);
            if (Modifier.isStatic(f.getModifiers())) {
                check(f + " is a constant of int or long",
                        Modifier.isFinal(f.getModifiers()) && (of == int.class || of == long.class));
            }
            if (!Modifier.isPrivate(f.getModifiers())) {
                check(f + " is a public constant",
                        f.getModifiers() == (Modifier.PUBLIC | Modifier.STATIC | Modifier.FINAL));
                seen.add(of + " " + f.getName());
            }
        }
        check("public constants are " + CONSTANTS + ", found " + seen, seen.equals(CONSTANTS));
    }

    private static void source() throws IOException {
        String code = Files.readString(SOURCE).replaceAll("(?s)/\\*.*?\\*/", "").replaceAll("//[^\n]*", "");
        Matcher m = RULED_OUT.matcher(code);
        while (m.find()) {
            check("the source does without " + m.group(), false);
        }
    }
}
