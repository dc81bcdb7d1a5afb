import java.lang.reflect.InvocationTargetException;
import java.lang.reflect.Method;
import java.lang.reflect.Modifier;
import java.nio.file.Files;
import java.nio.file.Path;
import java.util.HashMap;
import java.util.Map;
import java.util.Set;
import java.util.TreeSet;
import java.util.regex.Matcher;
import java.util.regex.Pattern;

/**
 * The README's examples, line by line: each call there answers what the comment behind it begins with, each
 * call of the face stands in one of them, and each part of the class has its own.
 */
public final class ReadmeTest {
    private static final Pattern BLOCK = Pattern.compile("(?s)### (\\w+)\n.*?```java\n(.*?)```");
    private static final Pattern CALL = Pattern.compile("(?:(?:int|long) (\\w+) = )?x\\.(\\w+)\\((.*)\\);\\s*// (-?\\w+).*");
    private static final Map<String, Method> FACE = face();
    private static final Set<String> SHOWN = new TreeSet<>();

    public static void main(String[] args) throws Exception {
        String readme = Files.readString(Path.of("README.md"));
        Set<String> parts = new TreeSet<>();
        Matcher blocks = BLOCK.matcher(readme);
        while (blocks.find()) {
            parts.add(blocks.group(1));
            example(blocks.group(1), blocks.group(2));
        }
        Check.due("parts " + parts, parts.equals(Set.of("Tensors", "Tables", "Games", "Scores", "Tokens")) ? 1 : 0, 1);
        for (String name : FACE.keySet()) {
            Check.due(name + " stands in an example", SHOWN.contains(name) ? 1 : 0, 1);
        }
        Check.due("README tells .ci/run", readme.contains(".ci/run") ? 1 : 0, 1);
        testsAreListed(readme);
        Check.end();
    }

    private static Map<String, Method> face() {
        Map<String, Method> found = new HashMap<>();
        for (Method m : PlainLearner.class.getDeclaredMethods()) {
            if (Modifier.isPublic(m.getModifiers())) {
                found.put(m.getName(), m);
            }
        }
        return found;
    }

    private static void example(String part, String block) throws Exception {
        PlainLearner x = null;
        Map<String, Long> variables = constants();
        for (String line : block.split("\n")) {
            Matcher call = CALL.matcher(line);
            if (line.equals("PlainLearner x = new PlainLearner();")) {
                x = new PlainLearner();
            } else if (call.matches() && x != null && FACE.containsKey(call.group(2))) {
                long answer = answer(x, FACE.get(call.group(2)), call.group(3), variables);
                Check.due(part + ": " + line, answer, number(call.group(4), variables));
                if (call.group(1) != null) {
                    variables.put(call.group(1), answer);
                }
                SHOWN.add(call.group(2));
            } else {
                Check.due(part + ", no call: " + line, line.isBlank() ? 1 : 0, 1);
            }
        }
    }

    private static Map<String, Long> constants() {
        Map<String, Long> all = new HashMap<>();
        all.put("BAD", (long) PlainLearner.BAD);
        all.put("NONE", (long) PlainLearner.NONE);
        all.put("FULL", (long) PlainLearner.FULL);
        all.put("TURN", (long) PlainLearner.TURN);
        return all;
    }

    private static long number(String text, Map<String, Long> variables) {
        return variables.containsKey(text) ? variables.get(text) : Long.decode(text.replace("L", ""));
    }

    private static long answer(PlainLearner x, Method m, String inside, Map<String, Long> variables)
            throws IllegalAccessException, InvocationTargetException {
        String[] texts = inside.isBlank() ? new String[0] : inside.split(",\\s*");
        Class<?>[] types = m.getParameterTypes();
        Object[] told = new Object[types.length];
        for (int i = 0; i < types.length; i++) {
            if (types[i] == boolean.class) {
                told[i] = Boolean.parseBoolean(texts[i]);
            } else if (types[i] == long.class) {
                told[i] = number(texts[i], variables);
            } else {
                told[i] = (int) number(texts[i], variables);
            }
        }
        return ((Number) m.invoke(x, told)).longValue();
    }

    private static void testsAreListed(String readme) throws Exception {
        try (var files = Files.list(Path.of("src/test/java"))) {
            for (Path file : (Iterable<Path>) files::iterator) {
                String name = file.getFileName().toString().replace(".java", "");
                if (name.endsWith("Test")) {
                    Check.due(name + " stands in the README", readme.contains("`" + name + "`") ? 1 : 0, 1);
                }
            }
        }
    }
}
