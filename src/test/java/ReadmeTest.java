import java.io.IOException;
import java.lang.reflect.Method;
import java.lang.reflect.Modifier;
import java.nio.file.Files;
import java.nio.file.Path;
import java.util.HashMap;
import java.util.HashSet;
import java.util.List;
import java.util.Map;
import java.util.Set;
import java.util.regex.Matcher;
import java.util.regex.Pattern;

/**
 * The example of use in README.md: its calls are done as they stand there, so that what a reader
 * copies answers as he is told. Each line of a java block is a new object or a call with its answer.
 */
public final class ReadmeTest {
    private static final Pattern MADE = Pattern.compile("StackMachine m = new StackMachine\\(\\);");
    private static final Pattern CALL = Pattern.compile(
            "(?:int (\\w+) = )?m\\.(\\w+)\\(([^()]*)\\);\\s+// (-?\\d+|true|false)(?:: .+)?");

    private static final Checks checks = new Checks("README.md");
    private static final Map<String, Method> face = face();
    private static final Map<String, Object> variables = new HashMap<>();
    private static final Set<String> used = new HashSet<>();
    private static StackMachine machine;

    public static void main(String[] args) throws IOException, ReflectiveOperationException {
        List<String> lines = Files.readAllLines(Path.of("README.md"));
        boolean inBlock = false;
        for (int i = 0; i < lines.size(); i++) {
            String line = lines.get(i).trim();
            if (line.startsWith("```")) inBlock = line.equals("```java");
            else if (inBlock && !line.isEmpty()) follow("line " + (i + 1) + ", " + line, line);
        }
        for (String name : face.keySet()) checks.due("an example uses " + name, used.contains(name), true);
        checks.end();
    }

    private static void follow(String where, String line) throws ReflectiveOperationException {
        if (MADE.matcher(line).matches()) {
            machine = new StackMachine();
            return;
        }
        Matcher call = CALL.matcher(line);
        boolean isCall = call.matches() && machine != null && face.containsKey(call.group(2));
        checks.due(where + ": is a call with its answer", isCall, true);
        if (!isCall) return;
        Method method = face.get(call.group(2));
        Object answer = method.invoke(machine, given(method, call.group(3)));
        checks.due(where + ": the class answers " + answer + ", as named", call.group(4).equals(answer.toString()), true);
        used.add(method.getName());
        if (call.group(1) != null) variables.put(call.group(1), answer);
    }

    private static Object[] given(Method method, String text) {
        Class<?>[] types = method.getParameterTypes();
        String[] words = text.isBlank() ? new String[0] : text.split(",");
        if (words.length != types.length) throw new AssertionError("arguments of " + method.getName() + ": " + text);
        Object[] values = new Object[words.length];
        for (int i = 0; i < words.length; i++) values[i] = valueOf(words[i].trim(), types[i]);
        return values;
    }

    private static Object valueOf(String word, Class<?> type) {
        if (variables.containsKey(word)) return variables.get(word);
        if (type == long.class) return Long.valueOf(word);
        return Integer.valueOf(word);
    }

    private static Map<String, Method> face() {
        Map<String, Method> found = new HashMap<>();
        for (Method method : StackMachine.class.getDeclaredMethods()) {
            if (Modifier.isPublic(method.getModifiers())) found.put(method.getName(), method);
        }
        return found;
    }
}
