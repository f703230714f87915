import java.io.IOException;
import java.lang.reflect.Method;
import java.lang.reflect.Modifier;
import java.nio.file.Files;
import java.nio.file.Path;
import java.util.Arrays;
import java.util.Set;
import java.util.TreeSet;
import java.util.regex.Matcher;
import java.util.regex.Pattern;

/** The calls of README.md's example, in their order on one new object, answer the number that stands behind each. */
public final class LazySeriesReadme {
    private static final String FIRST_LINE = "LazySeries x = new LazySeries();";
    private static final Pattern CALL = Pattern.compile("x\\.(\\w+)\\(([^()]*)\\);\\s*// (-?\\d+)\\b.*");

    private static final Check check = new Check();
    private static final Set<String> called = new TreeSet<>();

    public static void main(String[] args) throws IOException, ReflectiveOperationException {
        String readme = Files.readString(Path.of("README.md"));
        int start = readme.indexOf("```java\n");
        check.holds("README.md has an example", start >= 0);
        String fromExample = readme.substring(start + "```java\n".length());
        String[] lines = fromExample.substring(0, fromExample.indexOf("```")).split("\n");
        check.holds("the example begins with " + FIRST_LINE, lines[0].equals(FIRST_LINE));
        LazySeries x = new LazySeries();
        for (String line : Arrays.asList(lines).subList(1, lines.length)) {
            Matcher call = CALL.matcher(line);
            check.holds("a call and its answer: " + line, call.matches());
            if (call.matches()) {
                check.due(line, answer(x, call.group(1), call.group(2).split(", ")), Integer.parseInt(call.group(3)));
            }
        }
        for (Method method : LazySeries.class.getDeclaredMethods()) {
            boolean hidden = Modifier.isPrivate(method.getModifiers());
            check.holds("the example calls " + method.getName(), hidden || called.contains(method.getName()));
        }
        check.finish();
    }

    private static int answer(LazySeries x, String name, String[] arguments) throws ReflectiveOperationException {
        called.add(name);
        Class<?>[] types = new Class<?>[arguments.length];
        Object[] numbers = new Object[arguments.length];
        for (int i = 0; i < arguments.length; i++) {
            types[i] = int.class;
            numbers[i] = number(arguments[i]);
        }
        return (Integer) LazySeries.class.getMethod(name, types).invoke(x, numbers);
    }

    private static int number(String word) throws ReflectiveOperationException {
        String before = "LazySeries.";
        return word.startsWith(before)
            ? LazySeries.class.getField(word.substring(before.length())).getInt(null)
            : Integer.parseInt(word);
    }
}
