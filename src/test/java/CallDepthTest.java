import java.nio.file.Files;
import java.nio.file.Path;
import java.util.ArrayList;
import java.util.HashMap;
import java.util.List;
import java.util.Map;
import java.util.TreeMap;
import java.util.regex.Matcher;
import java.util.regex.Pattern;

/**
 * LANGUAGE.md, rules 4, 8 and 11: no method calls itself, by whatever way, calls go at most eight deep, and
 * the library's functions are those that stand there. Read from the source as it is laid out: a method begins
 * at an indent of four or eight and ends with the brace at the same indent.
 */
public final class CallDepthTest {
    private static final Pattern CLASS = Pattern.compile("^ {4}private static final class (\\w+) \\{$");
    private static final Pattern METHOD = Pattern.compile("^( {4}| {8})(?=\\S)[\\w\\[\\] ]*?(\\w+)\\([^()]*\\) \\{$");
    private static final Pattern CALL = Pattern.compile("(?:\\b(new )|\\b(\\w+)(?:\\[\\w+\\])?\\.)?\\b(\\w+)\\(");
    private static final List<String> LIBRARY = List.of("Arrays.fill", "Integer.bitCount", "Long.compare", "Math.floorDiv",
            "Math.max", "Math.min");
    private static final List<String> WORDS = List.of("for", "if", "while", "switch", "return");
    private static final int DEEPEST = 8;

    /** Bodies by class and name; those of like name in one class are joined. */
    private static final Map<String, String> BODIES = new TreeMap<>();
    private static final Map<String, Integer> DEPTHS = new HashMap<>();

    public static void main(String[] args) throws Exception {
        readBodies();
        Check.due("methods were found", BODIES.size() > 100 ? 1 : 0, 1);
        for (String method : BODIES.keySet()) {
            int depth = depthOf(method, new ArrayList<>());
            Check.due(method + " goes " + depth + " deep, at most eight", depth <= DEEPEST ? 1 : 0, 1);
        }
        Check.due("the deepest is seen", DEPTHS.get("PlainLearner.train") > 4 ? 1 : 0, 1);
        Check.end();
    }

    private static void readBodies() throws Exception {
        String source = Files.readString(Path.of("src/main/java/PlainLearner.java"));
        String[] lines = source.replaceAll("(?s)/\\*.*?\\*/", "").replaceAll("//[^\n]*", "").split("\n");
        String owner = "PlainLearner";
        for (int i = 0; i < lines.length; i++) {
            Matcher inside = CLASS.matcher(lines[i]);
            Matcher method = METHOD.matcher(lines[i]);
            if (inside.matches()) {
                owner = inside.group(1);
            } else if (method.matches()) {
                StringBuilder body = new StringBuilder();
                for (i++; i < lines.length && !lines[i].equals(method.group(1) + "}"); i++) {
                    body.append(lines[i]).append('\n');
                }
                BODIES.merge(owner + "." + method.group(2), body.toString(), String::concat);
            }
        }
    }

    /** Library calls count as one level. */
    private static int depthOf(String method, List<String> open) {
        if (open.contains(method)) {
            Check.due(method + " calls itself by way of " + open, 1, 0);
            return 0;
        }
        if (!DEPTHS.containsKey(method)) {
            open.add(method);
            int below = 0;
            Matcher calls = CALL.matcher(BODIES.get(method));
            while (calls.find()) {
                below = Math.max(below, depthOfCall(method, calls, open));
            }
            open.remove(method);
            DEPTHS.put(method, below + 1);
        }
        return DEPTHS.get(method);
    }

    private static int depthOfCall(String from, Matcher call, List<String> open) {
        String before = call.group(2);
        String name = call.group(3);
        if (before == null && WORDS.contains(name)) {
            return 0;
        }
        if (LIBRARY.contains(before + "." + name)) {
            return 1;
        }
        String owner = call.group(1) != null ? name : before == null ? from.substring(0, from.indexOf('.')) : before;
        if (BODIES.containsKey(owner + "." + name)) {
            return depthOf(owner + "." + name, open);
        }
        // A call on a field or variable: whichever class has a method of that name.
        int deepest = 0;
        for (String other : List.copyOf(BODIES.keySet())) {
            if (before != null && other.endsWith("." + name)) {
                deepest = Math.max(deepest, depthOf(other, open));
            }
        }
        boolean hasDefault = call.group(1) != null;
        Check.due(from + " calls " + call.group() + ", which is known", deepest > 0 || hasDefault ? 1 : 0, 1);
        return Math.max(deepest, 1);
    }
}
