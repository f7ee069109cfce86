import java.io.IOException;
import java.lang.reflect.InvocationTargetException;
import java.lang.reflect.Method;
import java.lang.reflect.Modifier;
import java.nio.file.Files;
import java.nio.file.Path;
import java.util.Set;
import java.util.TreeSet;
import java.util.regex.Matcher;
import java.util.regex.Pattern;
import java.util.stream.Stream;

/**
 * README.md tells what is so; run from the project's top. Lines x.call(..);  // answer[: why] of its
 * java blocks are called in their order on one object.
 */
public final class ReadmeTest {
    private static final Path README = Path.of("README.md");
    private static final Path TESTS = Path.of("src/test/java");
    private static final Pattern CALL = Pattern.compile("x\\.(\\w+)\\(([^)]*)\\);\\s*// (throws \\w+|true|false|-?\\d+)(?::.*)?");

    private static int wrong = 0;

    public static void main(String[] args) throws IOException, ReflectiveOperationException {
        String readme = Files.readString(README);
        Set<String> called = calls(readme);
        for (Method method : HoloNet.class.getDeclaredMethods()) {
            if (Modifier.isPublic(method.getModifiers())) {
                check("README.md shows a use of " + method.getName(), called.contains(method.getName()));
            }
        }
        testsAreNamed(readme);
        System.out.println(wrong == 0 ? "README.md tells what is so" : wrong + " faults of README.md");
        if (wrong != 0) {
            System.exit(1);
        }
    }

    private static void check(String what, boolean good) {
        if (!good) {
            wrong++;
            System.out.println("not so: " + what);
        }
    }

    private static Set<String> calls(String readme) throws ReflectiveOperationException {
        Set<String> called = new TreeSet<>();
        HoloNet x = new HoloNet();
        Matcher blocks = Pattern.compile("(?s)```java\\n(.*?)```").matcher(readme);
        while (blocks.find()) {
            for (String line : blocks.group(1).split("\n")) {
                Matcher m = CALL.matcher(line);
                if (m.matches()) {
                    called.add(m.group(1));
                    String got = answer(x, m.group(1), m.group(2));
                    check(line + ", answered is " + got, got.equals(m.group(3)));
                } else {
                    check("this line can be read: " + line, line.equals("HoloNet x = new HoloNet();"));
                }
            }
        }
        return called;
    }

    private static String answer(HoloNet x, String name, String arguments) throws ReflectiveOperationException {
        for (Method method : HoloNet.class.getDeclaredMethods()) {
            if (method.getName().equals(name)) {
                try {
                    return String.valueOf(method.invoke(x, values(arguments)));
                } catch (InvocationTargetException e) {
                    return "throws " + e.getCause().getClass().getSimpleName();
                }
            }
        }
        return "no such call";
    }

    private static Object[] values(String arguments) {
        return Stream.of(arguments.split(",\\s*")).filter(a -> !a.isEmpty()).map(ReadmeTest::value).toArray();
    }

    private static Object value(String argument) {
        if (argument.equals("true") || argument.equals("false")) {
            return Boolean.valueOf(argument);
        }
        return argument.equals("HoloNet.NONE") ? Integer.valueOf(HoloNet.NONE) : Integer.decode(argument);
    }

    private static void testsAreNamed(String readme) throws IOException {
        try (Stream<Path> files = Files.list(TESTS)) {
            files.map(f -> f.getFileName().toString().replace(".java", ""))
                .forEach(name -> check("README.md names " + name, readme.contains("`" + name + "`")));
        }
    }
}
