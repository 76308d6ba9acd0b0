import java.io.IOException;
import java.lang.reflect.Field;
import java.lang.reflect.Method;
import java.lang.reflect.Modifier;
import java.nio.file.Files;
import java.nio.file.Path;
import java.util.regex.Matcher;
import java.util.regex.Pattern;

/** README.md: its example answers what it says, and it names every call and constant. */
public final class ReadmeTest {
    private static final Pattern MADE = Pattern.compile("ExprCrossword x = new ExprCrossword\\((.*)\\);");
    private static final Pattern CALL = Pattern.compile("x\\.(\\w+)\\((.*)\\); +// answers (-?\\d+)\\b.*");
    private static final String BLOCK = "```java\n";
    private static final Checks checks = new Checks();

    public static void main(String[] args) throws IOException, ReflectiveOperationException {
        String readme = Files.readString(Path.of("README.md"));
        example(readme);
        names(readme);
        checks.end();
    }

    private static void example(String readme) throws ReflectiveOperationException {
        int start = readme.indexOf(BLOCK);
        checks.due("README.md has an example, 1 for yes", start >= 0 ? 1 : 0, 1);
        if (start < 0) {
            return;
        }
        start += BLOCK.length();
        String[] lines = readme.substring(start, readme.indexOf("```", start)).split("\n");
        Matcher made = MADE.matcher(lines[0]);
        checks.due("the example makes an object in its first line, 1 for yes", made.matches() ? 1 : 0, 1);
        if (!made.matches()) {
            return;
        }
        int[] sizes = numbers(made.group(1));
        ExprCrossword x = new ExprCrossword(sizes[0], sizes[1]);
        for (int n = 1; n < lines.length; n++) {
            line(x, lines[n]);
        }
    }

    private static void line(ExprCrossword x, String line) throws ReflectiveOperationException {
        Matcher call = CALL.matcher(line);
        checks.due("'" + line + "' tells a call and its answer, 1 for yes", call.matches() ? 1 : 0, 1);
        if (call.matches()) {
            int want = Integer.parseInt(call.group(3));
            checks.due(line, answer(x, call.group(1), numbers(call.group(2))), want);
        }
    }

    private static int answer(ExprCrossword x, String name, int[] arguments) throws ReflectiveOperationException {
        Class<?>[] types = new Class<?>[arguments.length];
        Object[] values = new Object[arguments.length];
        for (int n = 0; n < arguments.length; n++) {
            types[n] = int.class;
            values[n] = arguments[n];
        }
        return (int) ExprCrossword.class.getMethod(name, types).invoke(x, values);
    }

    private static int[] numbers(String text) {
        if (text.isEmpty()) {
            return new int[0];
        }
        String[] parts = text.split(", ");
        int[] values = new int[parts.length];
        for (int n = 0; n < parts.length; n++) {
            values[n] = Integer.parseInt(parts[n]);
        }
        return values;
    }

    private static void names(String readme) throws IllegalAccessException {
        for (Method method : ExprCrossword.class.getDeclaredMethods()) {
            if (Modifier.isPublic(method.getModifiers())) {
                named(readme, "| `" + method.getName() + "(");
            }
        }
        for (Field field : ExprCrossword.class.getDeclaredFields()) {
            if (Modifier.isPublic(field.getModifiers())) {
                named(readme, "`" + field.getName() + "` (" + field.getInt(null) + ")");
            }
        }
    }

    private static void named(String readme, String text) {
        checks.due("README.md has " + text + ", 1 for yes", readme.contains(text) ? 1 : 0, 1);
    }
}
