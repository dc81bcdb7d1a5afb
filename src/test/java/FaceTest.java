import java.lang.reflect.Constructor;
import java.lang.reflect.Field;
import java.lang.reflect.Method;
import java.lang.reflect.Modifier;
import java.nio.file.Files;
import java.nio.file.Path;
import java.util.ArrayList;
import java.util.List;
import java.util.Set;
import java.util.TreeSet;
import java.util.regex.Matcher;
import java.util.regex.Pattern;

/** The public face, and those rules of LANGUAGE.md that can be seen without reading. */
public final class FaceTest {
    private static final Path SOURCE = Path.of("src/main/java/PlainLearner.java");
    private static final Set<String> FACE = Set.of("int leaf(int,int,int,int)", "int tell(int,int,int,int)",
        "int act(int,int,int)", "int node(int,int)", "long value(int,int,int)", "long slope(int,int,int,int)",
        "long ways(int,int)", "int parameter(int,boolean)", "int rate(int,int)", "int train(int,int)",
        "int row(int,int,int,int,int)", "int cut(int)", "long cost(int,int,int)", "int best()", "int clear()",
        "int game(int)", "int worth(int,int)", "long share(int,int)", "int pair(int,boolean)", "long score(int,int)",
        "int forget()", "int feed(long,int)", "int empty()", "int merge()", "int merged(int,int)", "int encode()",
        "int token(int)", "int count(int)");

    public static void main(String[] args) throws Exception {
        face();
        classesInside();
        words();
        lengthOfMethods();
        Check.end();
    }

    private static String signature(Method m) {
        StringBuilder text = new StringBuilder(m.getReturnType().getSimpleName() + " " + m.getName() + "(");
        for (Class<?> p : m.getParameterTypes()) {
            text.append(text.charAt(text.length() - 1) == '(' ? "" : ",").append(p.getSimpleName());
        }
        return text.append(")").toString();
    }

    private static void face() {
        Set<String> found = new TreeSet<>();
        for (Method m : PlainLearner.class.getDeclaredMethods()) {
            if (Modifier.isPublic(m.getModifiers()) && !Modifier.isStatic(m.getModifiers())) {
                found.add(signature(m));
            } else {
                Check.due(m.getName() + " is private", Modifier.isPrivate(m.getModifiers()) ? 1 : 0, 1);
            }
        }
        Check.due("the face: " + found, found.equals(new TreeSet<>(FACE)) ? 1 : 0, 1);
        Set<String> constants = new TreeSet<>();
        for (Field f : PlainLearner.class.getDeclaredFields()) {
            if (Modifier.isPublic(f.getModifiers())) {
                constants.add(f.getName());
            } else {
                Check.due(f.getName() + " is private", Modifier.isPrivate(f.getModifiers()) ? 1 : 0, 1);
            }
        }
        Check.due("constants: " + constants, constants.equals(Set.of("BAD", "NONE", "FULL", "TURN")) ? 1 : 0, 1);
        Constructor<?>[] made = PlainLearner.class.getDeclaredConstructors();
        Check.due("constructors", made.length, 1);
        Check.due("it takes", made[0].getParameterCount(), 0);
        Check.due("it is public", Modifier.isPublic(made[0].getModifiers()) ? 1 : 0, 1);
        Check.due("the class is final", Modifier.isFinal(PlainLearner.class.getModifiers()) ? 1 : 0, 1);
    }

    private static void classesInside() {
        Set<String> publicNames = new TreeSet<>();
        for (String s : FACE) {
            publicNames.add(s.substring(s.indexOf(' ') + 1, s.indexOf('(')));
        }
        List<Class<?>> classes = new ArrayList<>(List.of(PlainLearner.class.getDeclaredClasses()));
        Check.due("some twelve classes", classes.size() < 12 ? 1 : 0, 1);
        for (Class<?> c : classes) {
            int m = c.getModifiers();
            Check.due(c + " is static", Modifier.isStatic(m) ? 1 : 0, 1);
            Check.due(c + " is hidden", Modifier.isPublic(m) || Modifier.isProtected(m) ? 0 : 1, 1);
            for (Method method : c.getDeclaredMethods()) {
                Check.due(method + " bears a name of the face", publicNames.contains(method.getName()) ? 1 : 0, 0);
                Check.due(method + " takes at most seven", method.getParameterCount() <= 7 ? 1 : 0, 1);
            }
            int own = 0;
            for (Field f : c.getDeclaredFields()) {
                boolean isStatic = Modifier.isStatic(f.getModifiers());
                Check.due(f + " static is final", !isStatic || Modifier.isFinal(f.getModifiers()) ? 1 : 0, 1);
                own += isStatic ? 0 : 1;
            }
            Check.due(c + " has at most twenty fields", own <= 20 ? 1 : 0, 1);
        }
    }

    private static void words() throws Exception {
        String source = Files.readString(SOURCE).replaceAll("(?s)/\\*.*?\\*/", "").replaceAll("//[^\n]*", "");
        String[] forbidden = {"throw", "throws", "try", "catch", "finally", "synchronized", "assert", "package", "Random",
            "System", "Thread", "Object", "double", "float", "goto", "native", "volatile", "transient"};
        for (String word : forbidden) {
            Check.due("the word " + word, Pattern.compile("\\b" + word + "\\b").matcher(source).find() ? 1 : 0, 0);
        }
        Check.due("lambdas or method references", source.contains("->") || source.contains("::") ? 1 : 0, 0);
        Matcher imports = Pattern.compile("import ([^;]*);").matcher(source);
        while (imports.find()) {
            Check.due("import " + imports.group(1), imports.group(1).equals("java.util.Arrays") ? 1 : 0, 1);
        }
    }

    /** A method begins at an indent of four or eight and ends with the brace at the same indent. */
    private static void lengthOfMethods() throws Exception {
        List<String> lines = Files.readAllLines(SOURCE);
        for (int start = 0; start < lines.size(); start++) {
            Matcher head = Pattern.compile("^( {4}| {8})\\S.*\\) \\{$").matcher(lines.get(start));
            if (head.find()) {
                int end = start;
                while (end < lines.size() && !lines.get(end).equals(head.group(1) + "}")) {
                    end++;
                }
                Check.due(lines.get(start).trim() + " is short", end - start <= 60 ? 1 : 0, 1);
            }
        }
    }
}
