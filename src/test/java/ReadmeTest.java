import java.io.IOException;
import java.lang.reflect.InvocationTargetException;
import java.lang.reflect.Method;
import java.nio.file.Files;
import java.nio.file.Path;
import java.util.regex.Matcher;
import java.util.regex.Pattern;

/** The examples of README.md answer what it says; run from the project's root. */
public final class ReadmeTest {
    private static final String NEW = "TurnBus bus = new TurnBus();";
    private static final Pattern CALL = Pattern.compile("bus\\.(\\w+)\\((.*)\\); +// (-?\\d+|\\w+Exception)(:.*)?");
    private static final Pattern TEXT = Pattern.compile("`(U\\d[^`]*)`");

    private TurnBus bus = new TurnBus();
    private int calls = 0;
    private int texts = 0;

    public static void main(String[] args) throws IOException, ReflectiveOperationException {
        ReadmeTest test = new ReadmeTest();
        boolean inExample = false;
        for (String line : Files.readAllLines(Path.of("README.md"))) {
            if (line.startsWith("```")) {
                inExample = line.equals("```java");
            } else if (inExample) {
                test.example(line);
            } else {
                test.texts(line);
            }
        }
        Due.is("README.md has examples of calls", test.calls >= 30 ? 1 : 0, 1);
        Due.is("README.md has examples of texts", test.texts >= 2 ? 1 : 0, 1);
        Due.end();
    }

    private void example(String line) throws ReflectiveOperationException {
        Matcher call = CALL.matcher(line);
        if (line.startsWith(NEW)) {
            bus = new TurnBus();
        } else if (call.matches()) {
            calls++;
            Due.same("README.md: " + line, answer(call.group(1), call.group(2)), call.group(3));
        } else {
            Due.same("README.md", line, "a call with its answer");
        }
    }

    private void texts(String line) {
        Matcher text = TEXT.matcher(line);
        while (text.find()) {
            texts++;
            Due.accepts("README.md: load with " + text.group(1), () -> Due.loaded(text.group(1)).about(0));
        }
    }

    private String answer(String name, String arguments) throws ReflectiveOperationException {
        String[] written = arguments.isEmpty() ? new String[0] : arguments.split(", ");
        Method method = method(name, written.length);
        Object[] values = new Object[written.length];
        for (int i = 0; i < values.length; i++) {
            values[i] = value(written[i], method.getParameterTypes()[i]);
        }
        try {
            return String.valueOf(method.invoke(bus, values));
        } catch (InvocationTargetException e) {
            return e.getCause().getClass().getSimpleName();
        }
    }

    private static Method method(String name, int arguments) throws NoSuchMethodException {
        for (Method method : TurnBus.class.getDeclaredMethods()) {
            if (method.getName().equals(name) && method.getParameterCount() == arguments) {
                return method;
            }
        }
        throw new NoSuchMethodException(name);
    }

    private static Object value(String written, Class<?> type) {
        if (type == boolean.class) {
            return Boolean.valueOf(written);
        }
        if (type == long.class) {
            return Long.valueOf(written.replace("L", ""));
        }
        return written.startsWith("'") ? Integer.valueOf(written.charAt(1)) : Integer.valueOf(written);
    }
}
