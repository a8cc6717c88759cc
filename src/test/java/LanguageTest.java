import java.io.IOException;
import java.lang.reflect.Field;
import java.lang.reflect.Method;
import java.lang.reflect.Modifier;
import java.nio.file.Files;
import java.nio.file.Path;
import java.util.HashSet;
import java.util.List;
import java.util.Map;
import java.util.Set;
import java.util.TreeMap;
import java.util.regex.MatchResult;
import java.util.regex.Pattern;

/** Those rules of LANGUAGE.md that can be seen from the program's words, whatever its layout. */
final class LanguageTest {
    private static final Pattern COMMENT = Pattern.compile("(?s)/\\*.*?\\*/|//[^\\n]*");
    private static final Pattern TOKEN = Pattern.compile("'(?:\\\\.|[^'])+'|\\w+|->|::|\\n|\\S");
    private static final Set<String> FORBIDDEN = Set.of("import", "package", "interface", "enum", "extends",
            "implements", "protected", "float", "double", "null", "throw", "throws", "try", "catch", "finally",
            "synchronized", "assert", "instanceof", "::", "\"", "@");
    private static final Set<String> OBJECT_METHODS = Set.of("getClass", "hashCode", "equals", "toString", "clone",
            "notify", "notifyAll", "wait", "finalize");
    private static final Set<String> NOT_CALLS = Set.of("if", "for", "while", "switch", "return", "case", "else", "do");
    private static final Set<Class<?>> TYPES = Set.of(int.class, long.class, short.class, byte.class, char.class,
            boolean.class);

    private final List<String> tokens;
    private final Map<String, Set<String>> calls = new TreeMap<>();

    private LanguageTest(String text) {
        String code = COMMENT.matcher(text).replaceAll(" ");
        tokens = TOKEN.matcher(code).results().map(MatchResult::group).toList();
    }

    public static void main(String[] args) throws IOException {
        LanguageTest test = new LanguageTest(Files.readString(Path.of("src/main/java/GraphScheduler.java")));
        test.words();
        test.arraysAreMadeAtTheStart();
        fields();
        methods();
        test.bodies();
        for (String name : test.calls.keySet()) {
            test.depth(name);
        }
        Check.finish();
    }

    private void words() {
        int classes = 0;
        for (int i = 0; i < tokens.size(); i++) {
            String token = tokens.get(i);
            boolean otherClass = token.matches("[A-Z]\\w*[a-z]\\w*") && !token.equals("GraphScheduler");
            boolean ofObject = OBJECT_METHODS.contains(token) && next(i).equals("(");
            boolean lambda = token.equals("->") && !inCaseLabel(i);
            boolean staticBlock = token.equals("static") && next(i).equals("{");
            none("the word " + token, FORBIDDEN.contains(token) || otherClass || ofObject || lambda || staticBlock);
            none("an array of arrays", token.equals("]") && next(i).equals("["));
            classes += token.equals("class") ? 1 : 0;
        }
        Check.due("classes", classes, 1);
    }

    private String next(int i) {
        for (int j = i + 1; j < tokens.size(); j++) {
            if (!tokens.get(j).equals("\n")) {
                return tokens.get(j);
            }
        }
        return "";
    }

    private boolean inCaseLabel(int i) {
        for (int j = i; j >= 0 && !Set.of(";", "{", "}").contains(tokens.get(j)); j--) {
            if (Set.of("case", "default").contains(tokens.get(j))) {
                return true;
            }
        }
        return false;
    }

    /** Every "new" makes an array of a constant length, outside of all methods but the constructor. */
    private void arraysAreMadeAtTheStart() {
        int depth = 0;
        boolean inConstructor = false;
        for (int i = 0; i < tokens.size(); i++) {
            String token = tokens.get(i);
            depth += token.equals("{") ? 1 : token.equals("}") ? -1 : 0;
            if (depth == 1) {
                inConstructor = token.equals("GraphScheduler") || inConstructor && !token.equals("}");
            }
            if (token.equals("new")) {
                int end = i + tokens.subList(i, tokens.size()).indexOf(";");
                String made = String.join("", tokens.subList(i + 1, end));
                none("new " + made, !made.matches("(int|long|short|byte|char|boolean)\\[[A-Z_0-9+*-]+\\]"));
                none("new " + made + " in a method", depth > 1 && !inConstructor);
            }
        }
    }

    private static void fields() {
        int own = 0;
        for (Field f : GraphScheduler.class.getDeclaredFields()) {
            Class<?> type = f.getType();
            if (Modifier.isStatic(f.getModifiers())) {
                boolean constant = Modifier.isFinal(f.getModifiers()) && (type == int.class || type == long.class);
                none("the static field " + f.getName(), !constant);
            } else {
                own++;
                none("the type of the field " + f.getName(), !isTypeOrArray(type));
            }
        }
        none("more than some forty fields", own > 42);
    }

    private static boolean isTypeOrArray(Class<?> type) {
        return TYPES.contains(type) || type.isArray() && TYPES.contains(type.getComponentType());
    }

    private static void methods() {
        for (Method m : GraphScheduler.class.getDeclaredMethods()) {
            none("more than seven parameters of " + m.getName(), m.getParameterCount() > 7);
            none("the type of " + m.getName(), m.getReturnType() != void.class && !TYPES.contains(m.getReturnType()));
            for (Class<?> type : m.getParameterTypes()) {
                none("a parameter's type of " + m.getName(), !isTypeOrArray(type));
            }
        }
    }

    /** Looks at each method's body for its length, and for what it calls. */
    private void bodies() {
        int depth = 0;
        String method = "";
        int lines = 0;
        for (int i = 0; i < tokens.size(); i++) {
            String token = tokens.get(i);
            depth += token.equals("{") ? 1 : token.equals("}") ? -1 : 0;
            lines += token.equals("\n") ? 1 : 0;
            boolean named = token.matches("[a-zA-Z_]\\w*") && !NOT_CALLS.contains(token) && next(i).equals("(");
            if (named && depth == 1) {
                method = token + "/" + arguments(i);
                calls.put(method, new HashSet<>());
                lines = 0;
            } else if (named) {
                calls.get(method).add(token + "/" + arguments(i));
                none("a call in the arguments of " + token + " in " + method, callInArguments(i));
            }
            none("more than some sixty lines in " + method, depth == 1 && token.equals("}") && lines > 62);
        }
        Check.due("methods seen, the constructor with them", calls.size(),
                GraphScheduler.class.getDeclaredMethods().length + 1);
    }

    /** How many arguments, or parameters, stand in the brackets after place i. */
    private int arguments(int i) {
        int open = 0;
        int commas = 0;
        boolean empty = true;
        for (int j = i + 1; j < tokens.size(); j++) {
            String token = tokens.get(j);
            open += token.matches("[(\\[]") ? 1 : token.matches("[)\\]]") ? -1 : 0;
            if (open == 0 && token.equals(")")) {
                break;
            }
            commas += open == 1 && token.equals(",") ? 1 : 0;
            empty &= token.equals("(") && open == 1 || token.equals("\n");
        }
        return empty ? 0 : commas + 1;
    }

    private boolean callInArguments(int i) {
        int open = 0;
        for (int j = i + 1; j < tokens.size(); j++) {
            String token = tokens.get(j);
            open += token.equals("(") ? 1 : token.equals(")") ? -1 : 0;
            if (open == 0 && token.equals(")")) {
                return false;
            }
            if (token.matches("[a-zA-Z_]\\w*") && next(j).equals("(")) {
                return true;
            }
        }
        return false;
    }

    /** Walks down the calls level by level; recursion would never come to an empty level. */
    private void depth(String name) {
        Set<String> level = Set.of(name);
        int depth = 0;
        while (!level.isEmpty() && depth <= 6) {
            depth++;
            Set<String> below = new HashSet<>();
            for (String caller : level) {
                below.addAll(calls.getOrDefault(caller, Set.of()));
            }
            level = below;
        }
        none("calls more than six deep from " + name, depth > 6);
    }

    private static void none(String what, boolean found) {
        Check.due(what + ": the number of them", found ? 1 : 0, 0);
    }
}
