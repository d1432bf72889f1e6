import java.io.IOException;
import java.lang.reflect.InvocationTargetException;
import java.lang.reflect.Method;
import java.lang.reflect.Modifier;
import java.nio.file.Files;
import java.nio.file.Path;
import java.util.Arrays;
import java.util.Set;
import java.util.TreeSet;
import java.util.regex.Matcher;
import java.util.regex.Pattern;

/** README.md tells no answer that the class does not give, and leaves no call out; .ci/run starts it in the root. */
public final class ReadmeTest {
    private static final Due DUE = new Due("ReadmeTest");
    private static final Pattern CALL = Pattern.compile("x\\.(\\w+)\\((.*?)\\); +// (true|false|-?\\d+)(:.*)?");

    public static void main(String[] args) throws IOException, IllegalAccessException, InvocationTargetException {
        String readme = Files.readString(Path.of("README.md"));
        example(readme);
        table(readme);
        DUE.end();
    }

    /** Each line of the example is called, in order, on one object. */
    private static void example(String readme) throws IllegalAccessException, InvocationTargetException {
        int from = readme.indexOf("```java");
        int to = readme.indexOf("```", from + 3);
        LedArms x = new LedArms();
        Set<String> called = new TreeSet<>();
        for (String line : readme.substring(from, to).split("\n")) {
            Matcher m = CALL.matcher(line);
            if (m.matches()) {
                called.add(m.group(1));
                DUE.same(line, String.valueOf(answer(x, m.group(1), m.group(2))), m.group(3));
            } else {
                boolean frame = line.equals("```java") || line.equals("LedArms x = new LedArms();");
                DUE.is("a line that is no call: " + line, frame, true);
            }
        }
        DUE.same("calls of the example", called.toString(), face().toString());
    }

    private static Object answer(LedArms x, String name, String given)
            throws IllegalAccessException, InvocationTargetException {
        Object[] numbers = given.isEmpty() ? new Object[0]
            : Arrays.stream(given.split(", ")).map(Integer::decode).toArray();
        for (Method m : LedArms.class.getDeclaredMethods()) {
            if (Modifier.isPublic(m.getModifiers()) && m.getName().equals(name) && m.getParameterCount() == numbers.length) {
                return m.invoke(x, numbers);
            }
        }
        return "no such call";
    }

    /** The table has a row for each call. */
    private static void table(String readme) {
        Set<String> told = new TreeSet<>();
        Matcher m = Pattern.compile("(?m)^\\| `(\\w+)\\(").matcher(readme);
        while (m.find()) {
            DUE.is("one row for " + m.group(1), told.add(m.group(1)), true);
        }
        DUE.same("calls of the table", told.toString(), face().toString());
    }

    private static Set<String> face() {
        Set<String> names = new TreeSet<>();
        for (Method m : LedArms.class.getDeclaredMethods()) {
            if (Modifier.isPublic(m.getModifiers())) {
                names.add(m.getName());
            }
        }
        return names;
    }
}
