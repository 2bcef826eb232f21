import java.io.IOException;
import java.lang.reflect.Field;
import java.lang.reflect.Method;
import java.lang.reflect.Modifier;
import java.nio.file.Files;
import java.nio.file.Path;
import java.util.regex.Matcher;
import java.util.regex.Pattern;

/** What README.md tells of the class: the answers of its calls, in their order, and that no call is left out. */
public final class ReadmeTests {
    private static final Tally TALLY = new Tally("readme");
    private static final Pattern CALL = Pattern.compile("x\\.(\\w+)\\(([^)]*)\\); +// (-?\\d+)(:.*)?");
    private static final String MADE = "RoadLinks x = new RoadLinks();";

    private ReadmeTests() {
    }

    public static void main(String[] args) throws IOException, ReflectiveOperationException {
        String readme = Files.readString(Path.of("README.md"));
        example(readme.substring(readme.indexOf("```java\n") + 8, readme.indexOf("\n```\n")));
        isWhole(readme);
        TALLY.end();
    }

    private static void example(String lines) throws ReflectiveOperationException {
        RoadLinks x = new RoadLinks();
        for (String line : lines.split("\n")) {
            if (line.isEmpty() || line.startsWith("// ") || line.equals(MADE)) continue;
            Matcher call = CALL.matcher(line);
            TALLY.isSo("a call and its answer: " + line, call.matches());
            if (call.matches()) TALLY.due(line, answer(x, call.group(1), call.group(2)), Long.parseLong(call.group(3)));
        }
    }

    private static long answer(RoadLinks x, String name, String told) throws ReflectiveOperationException {
        String[] words = told.isEmpty() ? new String[0] : told.split(", ");
        Class<?>[] types = new Class<?>[words.length];
        Object[] numbers = new Object[words.length];
        for (int i = 0; i < words.length; i++) {
            types[i] = int.class;
            numbers[i] = number(words[i]);
        }
        return ((Number) RoadLinks.class.getMethod(name, types).invoke(x, numbers)).longValue();
    }

    private static int number(String word) {
        if (word.startsWith("'")) return word.charAt(1);
        if (word.startsWith("0b")) return Integer.parseInt(word.substring(2), 2);
        return Integer.parseInt(word);
    }

    private static void isWhole(String readme) throws ReflectiveOperationException {
        for (Method method : RoadLinks.class.getDeclaredMethods()) {
            if (!Modifier.isPublic(method.getModifiers())) continue;
            TALLY.isSo("README.md tells " + method.getName(), readme.contains("`" + method.getName() + "`"));
        }
        for (Field field : RoadLinks.class.getFields()) {
            String told = "`" + field.getName() + "` " + field.getInt(null);
            TALLY.isSo("README.md tells " + told, readme.contains(told));
        }
    }
}
