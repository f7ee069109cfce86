import java.io.IOException;
import java.lang.reflect.Method;
import java.lang.reflect.Modifier;
import java.nio.file.Files;
import java.nio.file.Path;
import java.util.ArrayList;
import java.util.Comparator;
import java.util.LinkedHashMap;
import java.util.List;
import java.util.Map;
import java.util.Set;
import java.util.TreeSet;
import java.util.regex.Matcher;
import java.util.regex.Pattern;

/**
 * Holds the tests against ../shared/DOC.md itself; run from the project's top. Each sentence that a
 * test says it stands for is the document's own, and no words of the Terms or of a promise are left
 * for which no test stands. The face is that of the document, too.
 */
public final class DocumentTest {
    private static final Path DOCUMENT = Path.of("../shared/DOC.md");
    private static final Path SOURCE = Path.of("src/main/java/HoloNet.java");
    private static final List<String> TESTS = List.of("TextEdgesTest", "TableEdgesTest", "NetEdgesTest", "ActEdgesTest");
    private static final int PROMISES = 32;
    private static final String TEXT = "\"((?:[^\"\\\\]|\\\\.)*)\"";
    /** What says nothing by itself. */
    private static final String FILLER = "==== [123]\\.|```text|```|TOKENS:|[\\s,;:.()]";

    private record Quote(String test, String part, String words) { }

    private static int wrong = 0;

    public static void main(String[] args) throws IOException {
        if (!Files.isReadable(DOCUMENT)) {
            System.out.println("there is no " + DOCUMENT + " to be read");
            System.exit(1);
        }
        String document = Files.readString(DOCUMENT);
        Map<String, String> parts = partsOf(document.replaceAll("\\s+", " "));
        List<Quote> quotes = quotes();
        eachQuoteIsTheDocuments(quotes, parts);
        noWordsAreLeft(quotes, parts);
        face(document);
        headsOfPromises(document);
        headings(document);
        System.out.println(wrong == 0 ? quotes.size() + " sentences are the document's, and none is left out"
            : wrong + " faults against the document");
        if (wrong != 0) {
            System.exit(1);
        }
    }

    private static void check(String what, boolean good) {
        if (!good) {
            wrong++;
            System.out.println("not so: " + what);
        }
    }

    // ---- sentences

    /** "What it is", "Terms" (as a whole), "Terms 1" to "Terms 3", "Promise 1" to "Promise 32". */
    private static Map<String, String> partsOf(String flat) {
        Map<String, String> parts = new LinkedHashMap<>();
        parts.put("What it is", between(flat, "## What it is", "## The public face"));
        parts.put("Terms", between(flat, "## Terms", "## Promise 1:"));
        parts.put("Terms 1", between(flat, "==== 1.", "==== 2."));
        parts.put("Terms 2", between(flat, "==== 2.", "==== 3."));
        parts.put("Terms 3", between(flat, "==== 3.", "The constants:"));
        for (int k = 1; k <= PROMISES; k++) {
            String next = k < PROMISES ? "## Promise " + (k + 1) + ":" : "## Not promised";
            parts.put("Promise " + k, between(between(flat, "## Promise " + k + ":", next), "`:", null));
        }
        return parts;
    }

    private static String between(String text, String from, String to) {
        int start = text.indexOf(from);
        int end = to == null ? text.length() : text.indexOf(to, Math.max(start, 0));
        check("the document has " + from + (to == null ? "" : " .. " + to), start >= 0 && end >= 0);
        return start >= 0 && end >= 0 ? text.substring(start + from.length(), end) : "";
    }

    private static List<Quote> quotes() throws IOException {
        List<Quote> quotes = new ArrayList<>();
        Pattern call = Pattern.compile("sentence\\(\"([^\"]*)\",\\s*(" + TEXT + "(?:\\s*\\+\\s*" + TEXT + ")*)");
        for (String test : TESTS) {
            String code = Files.readString(Path.of("src/test/java/" + test + ".java"));
            Matcher m = call.matcher(code);
            while (m.find()) {
                StringBuilder words = new StringBuilder();
                Pattern.compile(TEXT).matcher(m.group(2)).results().forEach(r -> words.append(r.group(1)));
                quotes.add(new Quote(test, m.group(1), words.toString()));
            }
            int calls = code.split("sentence\\(\"", -1).length - 1;
            check("all sentences of " + test + " are read", quotes.stream().filter(q -> q.test.equals(test)).count() == calls);
        }
        return quotes;
    }

    private static void eachQuoteIsTheDocuments(List<Quote> quotes, Map<String, String> parts) {
        for (Quote q : quotes) {
            check(q.test + ": the document has under " + q.part + " \"" + q.words + "\"",
                parts.getOrDefault(q.part, "").contains(q.words));
        }
    }

    private static void noWordsAreLeft(List<Quote> quotes, Map<String, String> parts) {
        for (Map.Entry<String, String> part : parts.entrySet()) {
            // What the document says there ahead of part 1 is told by the parts and the promises.
            if (part.getKey().equals("Terms") || part.getKey().equals("What it is")) {
                continue;
            }
            String left = part.getValue();
            // Long ones ahead: "none such." must not be taken out of a longer one.
            List<Quote> own = new ArrayList<>(quotes.stream().filter(q -> q.part.equals(part.getKey())).toList());
            own.sort(Comparator.comparing(q -> -q.words.length()));
            for (Quote q : own) {
                left = left.replaceFirst(Pattern.quote(q.words), "\n");
            }
            check("a test stands for each word of " + part.getKey() + ", left is: " + left,
                !own.isEmpty() && left.replaceAll(FILLER, "").isEmpty());
        }
    }

    // ---- the face

    private static void face(String document) {
        String block = between(document, "public final class HoloNet {", "```");
        Set<String> told = new TreeSet<>();
        Matcher m = Pattern.compile("public (int|boolean) (\\w+)\\(([^)]*)\\)( throws \\w+)?;").matcher(block);
        while (m.find()) {
            told.add(m.group(1) + " " + m.group(2) + "(" + m.group(3).replaceAll(" \\w+(,|$)", "$1").replace(" ", "") + ")"
                + (m.group(4) == null ? "" : m.group(4)));
        }
        Set<String> seen = new TreeSet<>();
        for (Method method : HoloNet.class.getDeclaredMethods()) {
            if (Modifier.isPublic(method.getModifiers())) {
                seen.add(written(method));
            }
        }
        check("the face is " + told + ", not " + seen, told.size() == PROMISES - 1 && told.equals(seen));
        check("the constant", block.contains("public static final int NONE = -1;") && HoloNet.NONE == -1);
    }

    private static String written(Method method) {
        List<String> types = new ArrayList<>();
        for (Class<?> type : method.getParameterTypes()) {
            types.add(type.getName());
        }
        StringBuilder text = new StringBuilder(method.getReturnType().getName() + " " + method.getName());
        text.append('(').append(String.join(",", types)).append(')');
        for (Class<?> type : method.getExceptionTypes()) {
            text.append(" throws ").append(type.getSimpleName());
        }
        return text.toString();
    }

    /** The promises tell the calls in the face's order, each as it stands there. */
    private static void headsOfPromises(String document) {
        String block = between(document, "public final class HoloNet {", "```");
        int at = 0;
        for (int k = 1; k <= PROMISES; k++) {
            String head = between(between(document, "## Promise " + k + ":", "`:"), "`", null);
            int place = block.indexOf("public " + head + ";");
            check("promise " + k + " tells a call of the face: " + head, place >= at);
            at = Math.max(at, place);
        }
    }

    /** "Ahead of the calls .. the interface says: ---- x.": so does the class. */
    private static void headings(String document) throws IOException {
        String code = Files.readString(SOURCE);
        Matcher m = Pattern.compile("Ahead of the calls `(\\w+)`.*?the interface says: (---- [\\w ]+)\\.").matcher(document);
        int seen = 0;
        while (m.find()) {
            seen++;
            check("// " + m.group(2) + " stands ahead of " + m.group(1), Pattern.compile("// " + m.group(2)
                + "\\n\\n    public \\w+ " + m.group(1) + "\\(").matcher(code).find());
        }
        check("the document tells four headings", seen == 4);
    }
}
