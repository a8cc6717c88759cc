import java.io.IOException;
import java.nio.file.Files;
import java.nio.file.Path;
import java.util.HashSet;
import java.util.Map;
import java.util.Set;
import java.util.TreeMap;
import java.util.regex.Matcher;
import java.util.regex.Pattern;

/**
 * Those rules of LANGUAGE.md that can be seen from the program's text. It leans on the file's own
 * layout: members are indented by four spaces, and their closing braces too.
 */
final class LanguageTest {
    private static final String FORBIDDEN = "import|package|interface|enum|record|extends|implements|protected"
            + "|float|double|String|Math|Integer|Long|Object|System|Arrays|null|throw|throws|try|catch|finally"
            + "|synchronized|assert|instanceof|getClass|hashCode|equals|toString|clone|var|yield";
    private static final Pattern METHOD = Pattern.compile(
            "(?m)^    (?:public|private) (?:static )?(?:(?:int|long|boolean|void) )?(\\w+)\\(([^)]*)\\) \\{\\n(.*?)^    \\}",
            Pattern.DOTALL);
    private static final Pattern CALL = Pattern.compile("\\b(\\w+)\\(");
    private static final Set<String> KEYWORDS = Set.of("if", "for", "while", "switch", "return");

    private final String code;
    private final Map<String, Set<String>> calls = new TreeMap<>();

    private LanguageTest(String code) {
        this.code = code;
    }

    public static void main(String[] args) throws IOException {
        String text = Files.readString(Path.of("src/main/java/GraphScheduler.java"));
        String code = text.replaceAll("(?s)/\\*.*?\\*/", "").replaceAll("//[^\\n]*", "");
        LanguageTest test = new LanguageTest(code);
        test.words();
        test.arrays();
        test.methods();
        for (String name : test.calls.keySet()) {
            test.depth(name);
        }
        Check.finish();
    }

    private void words() {
        Check.due("forbidden words", count("\\b(" + FORBIDDEN + ")\\b"), 0);
        Check.due("lambdas, method references and strings", count("->|::|\""), 0);
        Check.due("classes", count("\\bclass\\b"), 1);
        Check.due("static fields other than int or long constants",
                count("(?m)^    (?:public|private) static (?!final (?:int|long) \\w+ =)(?!\\w+ \\w+\\()"), 0);
    }

    private void arrays() {
        int fields = count("(?m)^    private final (\\w+)\\[\\] \\w+ = new \\1\\[[A-Z_]+\\];$");
        Check.due("objects and arrays made outside field initialisers", count("\\bnew\\b") - fields, 0);
        Check.due("arrays of arrays", count("\\]\\s*\\["), 0);
        Check.due("fields at most forty", count("(?m)^    private (?!static)[^(]*;$") <= 40 ? 1 : 0, 1);
    }

    private void methods() {
        Matcher m = METHOD.matcher(code);
        while (m.find()) {
            String name = m.group(1);
            String body = m.group(3);
            Check.due("methods called " + name, calls.containsKey(name) ? 2 : 1, 1);
            Check.due("short enough: " + name, body.lines().count() <= 60 ? 1 : 0, 1);
            Check.due("seven parameters at most: " + name, m.group(2).split(",").length <= 7 ? 1 : 0, 1);
            Set<String> called = new HashSet<>();
            Matcher call = CALL.matcher(body);
            while (call.find()) {
                if (!KEYWORDS.contains(call.group(1))) {
                    called.add(call.group(1));
                    Check.due("calls inside the arguments in " + name, callsIn(arguments(body, call.end())), 0);
                }
            }
            calls.put(name, called);
        }
        Check.due("methods seen, the constructor with them", calls.size(), count("(?m)^    \\}$"));
    }

    private static String arguments(String body, int start) {
        int open = 1;
        int end = start;
        while (open > 0) {
            char c = body.charAt(end++);
            open += c == '(' ? 1 : c == ')' ? -1 : 0;
        }
        return body.substring(start, end - 1);
    }

    private static int callsIn(String arguments) {
        return CALL.matcher(arguments).find() ? 1 : 0;
    }

    /** Walks down the calls level by level; recursion would never come to an empty level. */
    private void depth(String name) {
        Set<String> level = Set.of(name);
        int depth = 0;
        while (!level.isEmpty() && depth <= 6) {
            depth++;
            Set<String> next = new HashSet<>();
            for (String caller : level) {
                next.addAll(calls.getOrDefault(caller, Set.of()));
            }
            level = next;
        }
        Check.due("six calls deep at most: " + name, depth <= 6 ? 1 : 0, 1);
    }

    private int count(String pattern) {
        return (int) Pattern.compile(pattern).matcher(code).results().count();
    }
}
