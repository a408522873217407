import java.io.IOException;
import java.lang.reflect.Field;
import java.lang.reflect.Method;
import java.lang.reflect.Modifier;
import java.nio.file.Files;
import java.nio.file.Path;
import java.util.regex.Matcher;
import java.util.regex.Pattern;

/** What README.md tells of the class is so. Run from the project's folder. */
public final class ReadmeTest {
    private static final Pattern EXAMPLE = Pattern.compile("(?s)```java\n(.*?)```");
    private static final Pattern CALL = Pattern.compile("letters\\.(\\w+\\([^)]*\\)); +// (-?\\d+)(:.*)?");
    private static final Checks checks = new Checks("ReadmeTest");

    public static void main(String[] args) throws IOException, IllegalAccessException {
        String readme = Files.readString(Path.of("README.md"));
        Matcher examples = EXAMPLE.matcher(readme);
        int found = 0;
        while (examples.find()) {
            found++;
            example(found, examples.group(1));
        }
        checks.due("examples", found, 2);
        callsAreNamed(readme);
        constantsAreNamed(readme);
        checks.end();
    }

    private static void example(int number, String text) {
        StringBuilder run = new StringBuilder();
        String[] lines = text.split("\n");
        checks.due("example " + number + " begins with a new object", lines[0].startsWith("NibLetters letters = new ") ? 1 : 0, 1);
        for (int i = 1; i < lines.length; i++) {
            Matcher call = CALL.matcher(lines[i]);
            boolean fits = call.matches();
            checks.due("a call with its answer: " + lines[i], fits ? 1 : 0, 1);
            if (fits) {
                run.append(call.group(1)).append(" = ").append(call.group(2)).append('\n');
            }
        }
        Script.rule(checks, "README.md, example " + number, run.toString());
    }

    /** Each in just one cell of the table of calls. */
    private static void callsAreNamed(String readme) {
        String table = readme.substring(readme.indexOf("| part |"), readme.indexOf("Calls never throw"));
        int named = table.split("`").length / 2;
        int calls = 0;
        for (Method method : NibLetters.class.getDeclaredMethods()) {
            if (Modifier.isPublic(method.getModifiers())) {
                calls++;
                checks.due(method.getName() + " is named", table.contains("`" + method.getName() + "`") ? 1 : 0, 1);
            }
        }
        checks.due("calls that are named", named, calls);
    }

    private static void constantsAreNamed(String readme) throws IllegalAccessException {
        for (Field field : NibLetters.class.getDeclaredFields()) {
            if (Modifier.isPublic(field.getModifiers())) {
                String row = "| `" + field.getName() + "` | " + field.getInt(null) + " |";
                checks.due("README.md has " + row, readme.contains(row) ? 1 : 0, 1);
            }
        }
    }
}
