import java.io.IOException;
import java.lang.reflect.Field;
import java.lang.reflect.Method;
import java.lang.reflect.Modifier;
import java.nio.file.Files;
import java.nio.file.Path;
import java.util.ArrayDeque;
import java.util.ArrayList;
import java.util.Deque;
import java.util.LinkedHashMap;
import java.util.List;
import java.util.Map;
import java.util.Set;
import java.util.TreeSet;
import java.util.regex.Matcher;
import java.util.regex.Pattern;

/**
 * The rules of LANGUAGE.md that can be read off the source or the class file.
 * It is run from the root of the project, as .ci/run does.
 */
public final class LanguageTest {
    private static final Check CHECK = new Check();
    private static final Path SOURCE = Path.of("src/main/java/BranchingBisim.java");

    private static final Pattern TOKEN = Pattern.compile("[A-Za-z_]\\w*|\\d\\w*|->|::|\\S");
    private static final Pattern FIELD_ARRAY =
        Pattern.compile("    private final (int|long|short|byte|char|boolean)\\[] \\w+ = new \\1\\[[A-Z_0-9]+];");
    private static final Pattern METHOD =
        Pattern.compile("    (?:public|private)(?: static)?(?: \\w+)? (\\w+)\\((.*)\\) \\{");
    private static final Set<String> FORBIDDEN = Set.of(
        "package", "import", "interface", "enum", "record", "extends", "implements", "float", "double",
        "String", "Object", "Math", "Integer", "Long", "System", "Arrays", "null", "this", "super",
        "throw", "throws", "try", "catch", "finally", "synchronized", "assert", "instanceof",
        "native", "volatile", "transient", "protected", "var", "->", "::", "\"", "@", ".", "goto", "yield");
    private static final Set<String> NOT_CALLS = Set.of("if", "for", "while", "switch", "return", "do", "else");
    private static final int LONGEST_METHOD = 60;
    private static final int MOST_PARAMETERS = 7;
    private static final int DEEPEST_CALL = 6;
    private static final int MOST_FIELDS = 40;

    public static void main(String[] args) throws IOException {
        String code = withoutComments(Files.readString(SOURCE));
        forbiddenWords(code);
        arraysOnlyInFields(code);
        noCallInsideArguments(code);
        Map<String, String> bodies = bodies(code);
        callsEndAndStayShallow(bodies);
        fields();
        methods();
        CHECK.end();
    }

    private static String withoutComments(String source) {
        return source.replaceAll("(?s)/\\*.*?\\*/", "").replaceAll("//[^\n]*", "");
    }

    private static List<String> tokens(String code) {
        List<String> tokens = new ArrayList<>();
        Matcher matcher = TOKEN.matcher(code);
        while (matcher.find()) {
            tokens.add(matcher.group());
        }
        return tokens;
    }

    private static void forbiddenWords(String code) {
        int classes = 0;
        for (String token : tokens(code)) {
            CHECK.isTrue("rules 1 to 6", "no " + token, !FORBIDDEN.contains(token));
            if (token.equals("class")) {
                classes++;
            }
        }
        CHECK.due("rule 1", "classes", classes, 1);
    }

    private static void arraysOnlyInFields(String code) {
        for (String line : code.split("\n")) {
            if (tokens(line).contains("new")) {
                CHECK.isTrue("rule 4", line.strip(), FIELD_ARRAY.matcher(line).matches());
            }
        }
        CHECK.isTrue("rule 4", "no array of arrays", !code.contains("[]["));
    }

    private static void noCallInsideArguments(String code) {
        Deque<Boolean> opened = new ArrayDeque<>();
        String before = "";
        for (String token : tokens(code)) {
            if (token.equals("(")) {
                boolean call = before.matches("[A-Za-z_]\\w*") && !NOT_CALLS.contains(before);
                CHECK.isTrue("rule 10", "no call of " + before + " inside arguments", !call || !opened.contains(true));
                opened.push(call);
            } else if (token.equals(")")) {
                opened.pop();
            }
            before = token;
        }
    }

    private static Map<String, String> bodies(String code) {
        Map<String, String> bodies = new LinkedHashMap<>();
        String name = null;
        List<String> lines = new ArrayList<>();
        for (String line : code.split("\n")) {
            Matcher matcher = METHOD.matcher(line);
            if (matcher.matches()) {
                name = matcher.group(1);
                lines.clear();
                int parameters = matcher.group(2).isBlank() ? 0 : matcher.group(2).split(",").length;
                CHECK.isTrue("rule 10", name + " has few parameters", parameters <= MOST_PARAMETERS);
                CHECK.isTrue("rule 1", name + " is the only one of its name", !bodies.containsKey(name));
            } else if (name != null && line.equals("    }")) {
                bodies.put(name, String.join("\n", lines));
                CHECK.isTrue("rule 10", name + " is short", lines.size() <= LONGEST_METHOD);
                name = null;
            } else {
                lines.add(line);
            }
        }
        // The constructor is one of them, the rest the class file knows too.
        CHECK.due("this test", "methods read", bodies.size(), BranchingBisim.class.getDeclaredMethods().length + 1);
        return bodies;
    }

    private static void callsEndAndStayShallow(Map<String, String> bodies) {
        Map<String, Set<String>> callers = new LinkedHashMap<>();
        bodies.forEach((name, body) -> {
            Set<String> called = new TreeSet<>(tokens(body));
            called.retainAll(bodies.keySet());
            callers.put(name, called);
        });
        // Cuts off the methods that call nothing more, one layer a time: recursion would never go.
        int depth = 0;
        while (!callers.isEmpty() && depth < DEEPEST_CALL) {
            Set<String> leaves = new TreeSet<>();
            callers.forEach((name, called) -> {
                if (called.isEmpty()) {
                    leaves.add(name);
                }
            });
            callers.keySet().removeAll(leaves);
            callers.values().forEach(called -> called.removeAll(leaves));
            depth++;
        }
        CHECK.due("rules 8 and 10", "methods in recursion or above six deep", callers.keySet(), Set.of());
    }

    private static void fields() {
        int variable = 0;
        for (Field field : BranchingBisim.class.getDeclaredFields()) {
            Class<?> type = field.getType();
            if (Modifier.isStatic(field.getModifiers())) {
                boolean whole = type == int.class || type == long.class;
                CHECK.isTrue("rule 5", field.getName(), whole && Modifier.isFinal(field.getModifiers()));
            } else {
                variable++;
                CHECK.isTrue("rule 2", field.getName(), type.isPrimitive() || type.getComponentType().isPrimitive());
            }
        }
        CHECK.isTrue("rule 10", variable + " fields", variable <= MOST_FIELDS);
    }

    private static void methods() {
        for (Method method : BranchingBisim.class.getDeclaredMethods()) {
            CHECK.isTrue("rule 4", method.getName() + " answers no array", method.getReturnType().isPrimitive());
        }
    }
}
