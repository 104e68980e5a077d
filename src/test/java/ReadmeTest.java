import java.io.IOException;
import java.lang.reflect.Method;
import java.nio.file.Files;
import java.nio.file.Path;
import java.util.Set;
import java.util.TreeSet;
import java.util.regex.Matcher;
import java.util.regex.Pattern;

/**
 * The example of README.md answers as its comments say, and uses every method.
 * It is run from the root of the project, as .ci/run does.
 */
public final class ReadmeTest {
    private static final Pattern EXAMPLE = Pattern.compile("(?s)```java\n(.*?)```");
    private static final Pattern MADE = Pattern.compile("BranchingBisim b = new BranchingBisim\\((.*)\\);");
    private static final Pattern CALL = Pattern.compile("b\\.(\\w+)\\((.*)\\); *// (\\w+).*");

    public static void main(String[] args) throws IOException {
        Matcher example = EXAMPLE.matcher(Files.readString(Path.of("README.md")));
        if (!example.find()) {
            throw new IllegalStateException("README.md has no example");
        }
        Set<String> used = new TreeSet<>();
        String script = script(example.group(1), used);
        Runs runs = new Runs();
        runs.play("README.md", script);
        usesEveryMethod(used);
        runs.end();
    }

    private static String script(String example, Set<String> used) {
        StringBuilder script = new StringBuilder();
        for (String line : example.split("\n")) {
            Matcher made = MADE.matcher(line);
            Matcher call = CALL.matcher(line);
            if (made.matches()) {
                script.append("new(").append(made.group(1)).append(")\n");
            } else if (call.matches()) {
                String values = call.group(2).replace("BranchingBisim.", "");
                script.append(call.group(1)).append('(').append(values).append(") = ").append(call.group(3)).append('\n');
                used.add(call.group(1));
            } else if (!line.isBlank() && !line.startsWith("//")) {
                throw new IllegalStateException("README.md: a line without an answer: " + line);
            }
        }
        return script.toString();
    }

    private static void usesEveryMethod(Set<String> used) {
        for (Method method : BranchingBisim.class.getMethods()) {
            if (method.getDeclaringClass() == BranchingBisim.class && !used.contains(method.getName())) {
                throw new IllegalStateException("README.md: no call of " + method.getName());
            }
        }
    }
}
