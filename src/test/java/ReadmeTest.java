import java.io.IOException;
import java.lang.reflect.InvocationTargetException;
import java.lang.reflect.Method;
import java.nio.file.Files;
import java.nio.file.Path;
import java.util.ArrayList;
import java.util.List;
import java.util.regex.Matcher;
import java.util.regex.Pattern;

/** The examples of README.md: each call told there is made on one object, and answers what stands behind it. */
public final class ReadmeTest {
    private static final String MADE = "CrossedLines x = new CrossedLines();";
    private static final Pattern ASKED = Pattern.compile("x\\.(\\w+)\\(([^)]*)\\);\\s*(?:// (-?\\w+).*)?");

    private CrossedLines x = null;
    private int calls = 0;

    public static void main(String[] args) throws IOException, ReflectiveOperationException {
        ReadmeTest test = new ReadmeTest();
        for (String line : examples()) {
            test.tell(line);
        }
        Check.due("there are examples, and at most 512 calls", test.calls > 30 && test.calls <= 512, true);
        Check.end();
    }

    private static List<String> examples() throws IOException {
        List<String> lines = new ArrayList<>();
        boolean isJava = false;
        for (String line : Files.readAllLines(Path.of("README.md"))) {
            if (line.startsWith("```")) {
                isJava = line.equals("```java");
            } else if (isJava) {
                lines.add(line.trim());
            }
        }
        return lines;
    }

    private void tell(String line) throws ReflectiveOperationException {
        if (line.equals(MADE)) {
            x = new CrossedLines();
            return;
        }
        Matcher asked = ASKED.matcher(line);
        if (!asked.matches()) {
            Check.same("an example", line, "x.call(..);   // answer");
            return;
        }
        calls++;
        String due = asked.group(3);
        String got = answer(asked.group(1), asked.group(2).split(", *"));
        // A call without an answer may have any words behind it.
        if (!got.equals("null")) {
            Check.same(line, got, due == null ? "" : due);
        }
    }

    /** The answer, or the name of what is thrown. */
    private String answer(String name, String[] told) throws ReflectiveOperationException {
        for (Method method : CrossedLines.class.getDeclaredMethods()) {
            if (method.getName().equals(name)) {
                try {
                    return String.valueOf(method.invoke(x, numbers(method, told)));
                } catch (InvocationTargetException e) {
                    return e.getCause().getClass().getSimpleName();
                }
            }
        }
        return "no such call";
    }

    private static Object[] numbers(Method method, String[] told) {
        Class<?>[] types = method.getParameterTypes();
        Object[] numbers = new Object[types.length];
        for (int i = 0; i < types.length; i++) {
            long v = Long.decode(told[i]);
            numbers[i] = types[i] == long.class ? (Object) v : (Object) (int) v;
        }
        return numbers;
    }
}
