import java.io.IOException;
import java.lang.reflect.Field;
import java.lang.reflect.Method;
import java.lang.reflect.Modifier;
import java.nio.file.Files;
import java.nio.file.Path;
import java.util.ArrayList;
import java.util.Arrays;
import java.util.List;
import java.util.Map;
import java.util.Set;
import java.util.TreeMap;
import java.util.TreeSet;
import java.util.regex.Matcher;
import java.util.regex.Pattern;

/** The public face of the document, and the rules of LANGUAGE.md as far as a plain look can tell. */
public final class LanguageTest {
    private static final Path SOURCE = Path.of("src/main/java/FlowSolver.java");
    private static final String FORBIDDEN =
        "import|package|float|double|String|Math|Integer|Long|System|Arrays|Object|null|throw|try|catch"
        + "|synchronized|assert|instanceof|interface|enum|record|protected|toString|equals|hashCode|clone";
    private static final Pattern METHOD = Pattern.compile(
        "(?m)^    (?:public|private) (?:static )?(?:\\w+ )?(\\w+)\\(([^)]*)\\) \\{$");
    private static final Set<String> NOT_CALLS = Set.of("if", "for", "while", "switch", "return");
    private static final Check check = new Check();

    public static void main(String[] args) throws IOException {
        constants();
        methods();
        fields();
        String code = withoutComments(Files.readString(SOURCE));
        words(code);
        arrays(code);
        Map<String, String> bodies = bodies(code);
        shortMethods(bodies);
        callsInArguments(bodies);
        callDepth(bodies);
        check.end();
    }

    private static void constants() {
        check.due("NOWHERE", FlowSolver.NOWHERE, 10000000000L);
        check.due("VARIES", FlowSolver.VARIES, 10000000001L);
        check.due("BAD", FlowSolver.BAD, -1);
        check.due("FULL", FlowSolver.FULL, -2);
        check.due("CUT", FlowSolver.CUT, 1);
        check.due("RETURNED", FlowSolver.RETURNED, 0);
    }

    private static void same(String what, Set<String> got, String... want) {
        Set<String> due = new TreeSet<>(Arrays.asList(want));
        if (!got.equals(due)) {
            check.fault(what + " are " + got + ", due are " + due);
        }
        check.due(what + ", how many", got.size(), want.length);
    }

    private static void methods() {
        Set<String> found = new TreeSet<>();
        Set<String> publicNames = new TreeSet<>();
        List<String> privateNames = new ArrayList<>();
        for (Method method : FlowSolver.class.getDeclaredMethods()) {
            if (Modifier.isPrivate(method.getModifiers())) {
                privateNames.add(method.getName());
                check.due(method + " at most seven", method.getParameterCount() <= 7, true);
                continue;
            }
            String types = Arrays.toString(method.getParameterTypes());
            found.add(Modifier.toString(method.getModifiers()) + " " + method.getReturnType() + " "
                + method.getName() + types);
            publicNames.add(method.getName());
        }
        same("the methods", found,
            "public int block[]", "public int add[int, int, int, int, int]",
            "public boolean exit[int, int, int, int, int]", "public boolean parameters[int]",
            "public int clear[]", "public int parent[int]", "public boolean dominates[int, int]",
            "public int frontier[int]", "public int merges[int]", "public int depth[int]",
            "public int lives[int]", "public int needed[int]", "public long value[int, int, boolean]",
            "public int count[int]", "public int run[int, int, int]", "public int last[int]");
        for (String name : privateNames) {
            check.due(name + " is also public", publicNames.contains(name), false);
        }
        check.due("constructors", FlowSolver.class.getDeclaredConstructors().length, 1);
        check.due("the constructor", FlowSolver.class.getConstructors().length, 1);
        check.due("public final", FlowSolver.class.getModifiers(), Modifier.PUBLIC | Modifier.FINAL);
        check.due("classes inside", FlowSolver.class.getDeclaredClasses().length, 0);
    }

    private static void fields() {
        Set<String> found = new TreeSet<>();
        int changing = 0;
        for (Field field : FlowSolver.class.getDeclaredFields()) {
            int modifiers = field.getModifiers();
            Class<?> type = field.getType();
            if (!Modifier.isPrivate(modifiers)) {
                found.add(Modifier.toString(modifiers) + " " + type + " " + field.getName());
            }
            if (Modifier.isStatic(modifiers)) {
                boolean number = type == int.class || type == long.class;
                check.due(field + " a constant", number && Modifier.isFinal(modifiers), true);
            } else {
                changing++;
                Class<?> part = type.isArray() ? type.getComponentType() : type;
                check.due(field + " of numbers", part.isPrimitive(), true);
            }
        }
        check.due("at most some forty fields", changing <= 40, true);
        same("the constants", found,
            "public static final long NOWHERE", "public static final long VARIES",
            "public static final int BAD", "public static final int FULL",
            "public static final int CUT", "public static final int RETURNED");
    }

    private static String withoutComments(String source) {
        return source.replaceAll("(?s)/\\*.*?\\*/", "").replaceAll("//[^\n]*", "");
    }

    private static void words(String code) {
        Matcher word = Pattern.compile("\\b(" + FORBIDDEN + ")\\b|->|::|\"|'").matcher(code);
        while (word.find()) {
            check.fault("'" + word.group() + "' stands in the class");
        }
        Matcher classes = Pattern.compile("\\bclass\\b").matcher(code);
        check.due("one class", classes.results().count(), 1);
    }

    private static void arrays(String code) {
        String field = "(?m)^    private final (int|long)\\[\\] \\w+ = new \\1\\[[A-Z_]+\\];$";
        long made = Pattern.compile("\\bnew\\b").matcher(code).results().count();
        check.due("arrays are made in fields alone", Pattern.compile(field).matcher(code).results().count(), made);
    }

    private static Map<String, String> bodies(String code) {
        Map<String, String> bodies = new TreeMap<>();
        Matcher method = METHOD.matcher(code);
        while (method.find()) {
            bodies.put(method.group(1), code.substring(method.end(), code.indexOf("\n    }\n", method.end())));
        }
        int declared = FlowSolver.class.getDeclaredMethods().length + 1;
        check.due("methods that were found in the text", bodies.size(), declared);
        return bodies;
    }

    private static void shortMethods(Map<String, String> bodies) {
        for (Map.Entry<String, String> entry : bodies.entrySet()) {
            check.due(entry.getKey() + " is short", entry.getValue().lines().count() <= 60, true);
        }
    }

    private static List<String> calls(String text) {
        List<String> found = new ArrayList<>();
        Matcher call = Pattern.compile("\\b(\\w+)\\(").matcher(text);
        while (call.find()) {
            if (!NOT_CALLS.contains(call.group(1))) {
                found.add(call.group(1));
            }
        }
        return found;
    }

    private static void callsInArguments(Map<String, String> bodies) {
        for (Map.Entry<String, String> entry : bodies.entrySet()) {
            String text = entry.getValue();
            Matcher call = Pattern.compile("\\b(\\w+)\\(").matcher(text);
            while (call.find()) {
                if (NOT_CALLS.contains(call.group(1))) {
                    continue;
                }
                int open = 1;
                int end = call.end();
                while (open > 0) {
                    open += text.charAt(end) == '(' ? 1 : text.charAt(end) == ')' ? -1 : 0;
                    end++;
                }
                List<String> inside = calls(text.substring(call.end(), end));
                check.due(entry.getKey() + ": calls inside the arguments of " + call.group(1), inside.size(), 0);
            }
        }
    }

    private static void callDepth(Map<String, String> bodies) {
        for (String name : bodies.keySet()) {
            check.due(name + " calls at most six deep", depth(name, bodies, 1) <= 6, true);
        }
    }

    /** Recursion shows as a depth beyond the bound. */
    private static int depth(String name, Map<String, String> bodies, int so) {
        int deepest = so;
        if (so > 6) {
            return so;
        }
        for (String called : calls(bodies.get(name))) {
            if (!bodies.containsKey(called)) {
                check.fault(name + " calls " + called + ", which is not of the class");
                continue;
            }
            deepest = Math.max(deepest, depth(called, bodies, so + 1));
        }
        return deepest;
    }
}
