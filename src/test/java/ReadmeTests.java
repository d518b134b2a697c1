import java.io.IOException;
import java.lang.reflect.Field;
import java.lang.reflect.Method;
import java.lang.reflect.Modifier;
import java.nio.file.Files;
import java.nio.file.Path;
import java.util.List;
import java.util.regex.Matcher;
import java.util.regex.Pattern;

/** README.md's example answers what its comments say, and its tables name the whole face. */
final class ReadmeTests {
    private static final Pattern CALL = Pattern.compile("marker\\.(\\w+)\\((.*)\\); +// (\\S+)");

    private ReadmeTests() {
    }

    static void runAll(Tests tests, Path readme) throws IOException {
        List<String> lines = Files.readAllLines(readme);
        tests.run("README: the example", t -> example(t, lines));
        tests.run("README: every method", t -> methods(t, String.join("\n", lines)));
        tests.run("README: every constant", t -> constants(t, String.join("\n", lines)));
    }

    private static void example(Tests t, List<String> lines) {
        int start = lines.indexOf("```java");
        int end = lines.lastIndexOf("```");
        if (start < 0 || end < start) {
            t.fail("there is no example");
            return;
        }
        GarmentMarker marker = new GarmentMarker();
        t.due("first line makes the object",
                lines.get(start + 1).equals("GarmentMarker marker = new GarmentMarker();"), true);
        for (String line : lines.subList(start + 2, end)) {
            if (!line.isEmpty() && !line.startsWith("//")) {
                exampleLine(t, marker, line);
            }
        }
    }

    private static void exampleLine(Tests t, GarmentMarker marker, String line) {
        Matcher call = CALL.matcher(line);
        if (!call.matches()) {
            t.fail("no call with its answer: " + line);
            return;
        }
        try {
            Object answer = method(call.group(1)).invoke(marker, arguments(call.group(2)));
            Object due = value(call.group(3));
            if (!answer.equals(due)) {
                t.fail(line + " answered " + answer);
            }
        } catch (ReflectiveOperationException e) {
            t.fail(line + ": " + e);
        }
    }

    private static Method method(String name) throws NoSuchMethodException {
        for (Method method : GarmentMarker.class.getDeclaredMethods()) {
            if (Modifier.isPublic(method.getModifiers()) && method.getName().equals(name)) {
                return method;
            }
        }
        throw new NoSuchMethodException(name);
    }

    private static Object[] arguments(String text) throws ReflectiveOperationException {
        String[] parts = text.isEmpty() ? new String[0] : text.split(", ");
        Object[] values = new Object[parts.length];
        for (int i = 0; i < parts.length; i++) {
            values[i] = value(parts[i]);
        }
        return values;
    }

    private static Object value(String text) throws ReflectiveOperationException {
        if (text.equals("true") || text.equals("false")) {
            return Boolean.valueOf(text);
        }
        String constant = "GarmentMarker.";
        return text.startsWith(constant)
                ? GarmentMarker.class.getField(text.substring(constant.length())).get(null)
                : Integer.valueOf(text);
    }

    private static void methods(Tests t, String readme) {
        for (Method method : GarmentMarker.class.getDeclaredMethods()) {
            if (Modifier.isPublic(method.getModifiers())) {
                t.due("`" + method.getName() + "` is named",
                        readme.contains("`" + method.getName() + "`"), true);
            }
        }
    }

    /** The negative ones are the answers of the second table, so their values stand there too. */
    private static void constants(Tests t, String readme) {
        try {
            for (Field field : GarmentMarker.class.getFields()) {
                String name = "`" + field.getName() + "`";
                int value = field.getInt(null);
                String row = value < 0 ? "| " + name + " | " + value + " | " : name;
                t.due(row + " is there", readme.contains(row), true);
            }
        } catch (IllegalAccessException e) {
            t.fail(e.toString());
        }
    }
}
