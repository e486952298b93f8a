import java.io.IOException;
import java.lang.reflect.Field;
import java.lang.reflect.Method;
import java.lang.reflect.Modifier;
import java.nio.file.Files;
import java.nio.file.Path;
import java.util.regex.Matcher;
import java.util.regex.Pattern;

/**
 * What README.md shows is so: each example with an object of its own answers what stands beside its
 * calls. It is looked for in the folder of the project, which the argument is a path to.
 */
public final class ReadmeTests {
    private static final Pattern EXAMPLE =
        Pattern.compile("```java\nRopeKnots rope = new RopeKnots\\(\\);\n(.*?)```", Pattern.DOTALL);
    private static final Pattern WRITTEN = Pattern.compile("write\\(rope, \"([^\"]*)\"\\);(?: +//.*)?");
    private static final Pattern CALLED =
        Pattern.compile("rope\\.(\\w+)\\(([^)]*)\\); +// (-?\\d+|[A-Z_]+)(?::.*)?");

    private static final Check check = new Check("ReadmeTests");

    private ReadmeTests() {
    }

    public static void main(String[] args) throws IOException {
        Path project = Path.of(args.length > 0 ? args[0] : ".");
        String readme = Files.readString(project.resolve("README.md"));
        namesAll(readme);
        int examples = 0;
        Matcher example = EXAMPLE.matcher(readme);
        while (example.find()) {
            examples++;
            run("example " + examples, example.group(1));
        }
        check.holds("there is an example", examples > 0);
        check.finish();
    }

    private static void namesAll(String readme) {
        for (Method method : RopeKnots.class.getDeclaredMethods()) {
            if (Modifier.isPublic(method.getModifiers())) {
                check.holds(method.getName() + " is told", readme.contains("`" + method.getName() + "("));
            }
        }
        for (Field field : RopeKnots.class.getDeclaredFields()) {
            if (Modifier.isPublic(field.getModifiers())) {
                check.holds(field.getName() + " is told", readme.contains("`" + field.getName() + "`"));
            }
        }
    }

    private static void run(String title, String lines) {
        StringBuilder script = new StringBuilder();
        for (String line : lines.split("\n")) {
            script.append(script.length() == 0 ? "" : "; ").append(statement(title, line));
        }
        new Script(script.toString()).run(check, title);
    }

    /** A line of an example, told as Script reads it. */
    private static String statement(String title, String line) {
        Matcher written = WRITTEN.matcher(line);
        if (written.matches()) {
            return "text " + written.group(1);
        }
        Matcher called = CALLED.matcher(line);
        boolean isCall = called.matches();
        check.holds(title + ": a call with its answer: " + line, isCall);
        if (!isCall) {
            return "count 0";
        }
        String with = called.group(2).replace(",", "").replace("true", "asRope").replace("false", "asPattern");
        return (called.group(1) + " " + with).trim() + " = " + called.group(3);
    }
}
