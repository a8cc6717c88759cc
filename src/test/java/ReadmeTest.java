import java.io.IOException;
import java.lang.reflect.Field;
import java.lang.reflect.Method;
import java.lang.reflect.Modifier;
import java.nio.file.Files;
import java.nio.file.Path;
import java.util.Collections;
import java.util.HashMap;
import java.util.HashSet;
import java.util.List;
import java.util.Map;
import java.util.Set;
import java.util.regex.Matcher;
import java.util.regex.Pattern;

/** The calls that README.md shows answer as it says, and it tells every method and constant. */
final class ReadmeTest {
    private static final Pattern MAKE =
            Pattern.compile("GraphScheduler s = new GraphScheduler\\((\\d+), (\\d+)\\);(\\s*//.*)?");
    private static final Pattern CALL =
            Pattern.compile("(?:int (\\w+) = )?s\\.(\\w+)\\(([^)]*)\\);\\s*// (-?\\d+|[A-Z_]+)(?::.*)?");

    private final Set<String> called = new HashSet<>();
    private Map<String, Integer> variables = new HashMap<>();
    private GraphScheduler scheduler;

    public static void main(String[] args) throws IOException, ReflectiveOperationException {
        ReadmeTest test = new ReadmeTest();
        String readme = Files.readString(Path.of("README.md"));
        test.runExamples(readme.lines().toList());
        test.everyMethodIsTold(readme);
        everyConstantIsTold(readme);
        Check.finish();
    }

    private void runExamples(List<String> lines) throws ReflectiveOperationException {
        boolean inExample = false;
        for (String line : lines) {
            if (line.startsWith("```")) {
                inExample = line.equals("```java");
                scheduler = null;
                variables = new HashMap<>();
            } else if (inExample) {
                runLine(line.strip());
            }
        }
    }

    private void runLine(String line) throws ReflectiveOperationException {
        Matcher make = MAKE.matcher(line);
        Matcher call = CALL.matcher(line);
        if (make.matches()) {
            scheduler = new GraphScheduler(Integer.parseInt(make.group(1)), Integer.parseInt(make.group(2)));
        } else if (call.matches() && scheduler != null) {
            int answer = answer(call.group(2), call.group(3));
            Check.due(line, answer, number(call.group(4)));
            called.add(call.group(2));
            if (call.group(1) != null) {
                variables.put(call.group(1), answer);
            }
        } else {
            Check.due("lines that can be read as a call with its answer: " + line, 0, 1);
        }
    }

    private int answer(String name, String arguments) throws ReflectiveOperationException {
        String[] words = arguments.isBlank() ? new String[0] : arguments.split(", ");
        Object[] values = new Object[words.length];
        Class<?>[] types = new Class<?>[words.length];
        for (int i = 0; i < words.length; i++) {
            values[i] = number(words[i]);
            types[i] = int.class;
        }
        return (int) GraphScheduler.class.getMethod(name, types).invoke(scheduler, values);
    }

    private int number(String word) throws ReflectiveOperationException {
        if (variables.containsKey(word)) {
            return variables.get(word);
        }
        return word.matches("[A-Z_]+") ? Answers.class.getField(word).getInt(null) : Integer.parseInt(word);
    }

    private void everyMethodIsTold(String readme) {
        for (Method m : GraphScheduler.class.getDeclaredMethods()) {
            if (Modifier.isPublic(m.getModifiers())) {
                String parameters = String.join(", ", Collections.nCopies(m.getParameterCount(), "\\w"));
                Pattern row = Pattern.compile("\\| `" + m.getName() + "\\(" + parameters + "\\)` \\|");
                boolean told = row.matcher(readme).find();
                Check.due("rows that tell " + m.getName(), told ? 1 : 0, 1);
                Check.due("examples that call " + m.getName(), called.contains(m.getName()) ? 1 : 0, 1);
            }
        }
        Check.due("places that tell the constructor", readme.contains("`new GraphScheduler(slots, items)`") ? 1 : 0, 1);
    }

    private static void everyConstantIsTold(String readme) throws ReflectiveOperationException {
        for (Field f : GraphScheduler.class.getFields()) {
            String told = "`" + f.getName() + "` = " + f.getInt(null);
            boolean found = Pattern.compile(told + "\\b").matcher(readme).find();
            Check.due("places that tell " + told, found ? 1 : 0, 1);
        }
    }
}
