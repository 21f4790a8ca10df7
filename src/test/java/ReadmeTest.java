import java.io.IOException;
import java.lang.reflect.Method;
import java.lang.reflect.Modifier;
import java.nio.file.Files;
import java.nio.file.Path;
import java.util.Set;
import java.util.TreeSet;
import java.util.regex.Matcher;
import java.util.regex.Pattern;

/** Runs the examples of README.md: each line's call answers what stands behind it, and each call of the face has one. */
public final class ReadmeTest {
    private static final Pattern MADE = Pattern.compile("PageHold hold = new PageHold\\((\\d+), (\\d+)\\);( *//.*)?");
    private static final Pattern CALL = Pattern.compile("hold\\.(\\w+)\\((.*)\\); *// (-?\\w+)(:.*)?");

    private final Set<String> shown = new TreeSet<>();
    private PageHold hold = null;
    private int asked = 0;
    private int wrong = 0;

    public static void main(String[] args) throws IOException, ReflectiveOperationException {
        ReadmeTest test = new ReadmeTest();
        boolean inExample = false;
        for (String line : Files.readAllLines(Path.of("README.md"))) {
            if (line.startsWith("```")) inExample = line.equals("```java");
            else if (inExample) test.example(line);
        }
        for (Method m : PageHold.class.getDeclaredMethods()) {
            if (Modifier.isPublic(m.getModifiers()) && !test.shown.contains(m.getName())) test.tell("no example of " + m);
        }
        System.out.println(test.asked + " answers of README.md, " + test.wrong + " not as due");
        if (test.wrong != 0) System.exit(1);
    }

    private void tell(String what) {
        wrong++;
        System.out.println(what);
    }

    private void example(String line) throws ReflectiveOperationException {
        Matcher made = MADE.matcher(line);
        Matcher call = CALL.matcher(line);
        if (made.matches()) {
            hold = new PageHold(Integer.parseInt(made.group(1)), Integer.parseInt(made.group(2)));
        } else if (call.matches() && hold != null) {
            asked++;
            shown.add(call.group(1));
            Object got = answer(call.group(1), call.group(2).isEmpty() ? new String[0] : call.group(2).split(", "));
            if (!got.toString().equals(due(call.group(3)))) tell(line + " answered " + got);
        } else {
            tell("not understood: " + line);
        }
    }

    private Object answer(String name, String[] numbers) throws ReflectiveOperationException {
        for (Method m : PageHold.class.getDeclaredMethods()) {
            if (!m.getName().equals(name) || m.getParameterCount() != numbers.length) continue;
            Object[] given = new Object[numbers.length];
            for (int i = 0; i < given.length; i++) given[i] = value(numbers[i], m.getParameterTypes()[i]);
            return m.invoke(hold, given);
        }
        return "no such call";
    }

    private static Object value(String text, Class<?> type) {
        if (type == boolean.class) return Boolean.valueOf(text);
        if (type == long.class) return Long.valueOf(text);
        return Integer.valueOf(text);
    }

    /** A constant of the class stands for its number. */
    private static String due(String text) throws ReflectiveOperationException {
        return text.matches("[A-Z_]+") ? PageHold.class.getField(text).get(null).toString() : text;
    }
}
