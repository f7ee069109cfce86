import java.io.IOException;
import java.nio.file.Files;
import java.nio.file.Path;
import java.util.List;
import java.util.regex.Matcher;
import java.util.regex.Pattern;

/**
 * What of LANGUAGE.md can be seen in the text of src/main/java/HoloNet.java; run from the project's
 * top. Comments and written texts are left out ahead of looking.
 */
public final class RulesTest {
    private static final Path SOURCE = Path.of("src/main/java/HoloNet.java");
    private static final String METHOD_HEAD = "(?m)^ {4}(?: {4})?(?:(?:public|private|static|final) )*[\\w\\[\\]]+ (\\w+)\\(([^)]*)\\)[^;{]*\\{\\n";
    private static int wrong = 0;

    public static void main(String[] args) throws IOException {
        String text = Files.readString(SOURCE);
        String code = text.replaceAll("(?s)/\\*.*?\\*/", "").replaceAll("//[^\\n]*", "").replaceAll("\"[^\"\\n]*\"", "\"\"");
        words(code);
        imports(code);
        classesAndFields(code);
        methods(code);
        System.out.println(wrong == 0 ? "no rule is seen broken" : wrong + " rules are broken");
        if (wrong != 0) {
            System.exit(1);
        }
    }

    private static void rule(int number, String what, boolean good) {
        if (!good) {
            wrong++;
            System.out.println("rule " + number + ": " + what);
        }
    }

    private static boolean has(String code, String pattern) {
        return Pattern.compile(pattern).matcher(code).find();
    }

    private static int count(String code, String pattern) {
        return (int) Pattern.compile(pattern).matcher(code).results().count();
    }

    private static void words(String code) {
        rule(2, "a lambda", !has(code, "->"));
        rule(2, "a method reference", !has(code, "::"));
        rule(4, "a name that ends in Exact", !has(code, "\\w+Exact\\b"));
        rule(5, "a static block", !has(code, "\\bstatic\\s*\\{"));
        rule(6, "a catch of what the machine throws", !has(code, "\\b(catch|finally|try)\\b"));
        rule(6, "a word that is left out", !has(code, "\\b(synchronized|assert|instanceof)\\b"));
        rule(6, "a method of objects", !has(code, "\\b(hashCode|toString|equals)\\s*\\("));
        rule(6, "a throw of another class", count(code, "\\bthrow\\b") == count(code, "throw new NoSuchElementException\\(\"\"\\);"));
        rule(10, "texts joined by +", !has(code, "\"\"\\s*\\+|\\+\\s*\"\""));
        for (String library : List.of("System", "Arrays", "Math", "Integer", "Long")) {
            Matcher used = Pattern.compile("\\b" + library + "\\.(\\w+)").matcher(code);
            while (used.find()) {
                rule(4, library + "." + used.group(1), List.of("arraycopy", "floorMod", "min", "max", "bitCount",
                    "numberOfTrailingZeros").contains(used.group(1)));
            }
        }
    }

    private static void imports(String code) {
        rule(4, "imports", count(code, "(?m)^import ") == 1 && code.contains("import java.util.NoSuchElementException;"));
        rule(1, "a package line", !has(code, "(?m)^package "));
    }

    private static void classesAndFields(String code) {
        rule(11, "more than twelve classes", count(code, "\\b(class|record|enum|interface) \\w+") <= 12);
        rule(3, "an array of three dimensions", !has(code, "\\[\\]\\[\\]\\[\\]"));
        rule(5, "a static field that isn't final", !has(code, "\\bstatic (?!final )[\\w\\[\\]]+ \\w+ ?[=;]"));
        // Fields of the class itself stand behind four blanks, those of the classes inside behind eight.
        rule(11, "more than twenty fields", count(code, "(?m)^ {4}private (?!static)(final )?[\\w\\[\\]]+ \\w+( =|;)") <= 20);
    }

    private static void methods(String code) {
        Matcher head = Pattern.compile(METHOD_HEAD).matcher(code);
        int seen = 0;
        while (head.find()) {
            seen++;
            String indent = head.group().startsWith("        ") ? "        " : "    ";
            int end = code.indexOf("\n" + indent + "}", head.end());
            int lines = count(code.substring(head.start(), end), "\n");
            rule(11, head.group(1) + " has " + lines + " lines", lines <= 60);
            int parameters = head.group(2).isBlank() ? 0 : head.group(2).split(",").length;
            rule(11, head.group(1) + " has " + parameters + " parameters", parameters <= 7);
        }
        rule(11, "only " + seen + " methods were looked at", seen >= 31);
        rule(9, "a loop without an end", !has(code, "while \\(true\\)|for \\(;;\\)"));
    }
}
