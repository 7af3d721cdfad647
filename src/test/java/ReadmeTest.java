import java.lang.reflect.InvocationTargetException;
import java.lang.reflect.Method;
import java.nio.file.Files;
import java.nio.file.Path;
import java.nio.file.Paths;
import java.util.regex.Matcher;
import java.util.regex.Pattern;

/** Makes the calls of README.md's example, in their order, and looks whether they answer what stands behind them. */
public final class ReadmeTest {
    private static final Pattern TELL = Pattern.compile("tell\\(navy, \"(.*)\"\\);");
    private static final Pattern CALL = Pattern.compile("navy\\.(\\w+)\\((.*)\\); +// (-?\\d+|true|false): .*");
    private static final int LEAST_CALLS = 20;

    public static void main(String[] args) throws Exception {
        Checks checks = new Checks();
        Path source = Paths.get(System.getProperty("source", "src/main/java/GreenButtons.java")).toAbsolutePath();
        GreenButtons navy = new GreenButtons();
        int calls = 0;
        for (String line : Files.readAllLines(source.resolve("../../../../README.md").normalize())) {
            Matcher tell = TELL.matcher(line);
            Matcher call = CALL.matcher(line);
            if (tell.matches()) {
                Checks.feedText(navy, tell.group(1));
            } else if (call.matches()) {
                calls++;
                String got = answer(navy, call.group(1), call.group(2));
                checks.is("README.md: " + line.trim() + " (answered " + got + ")", got.equals(call.group(3)));
            } else {
                checks.isNot("README.md: a call without an answer: " + line, line.startsWith("navy."));
            }
        }
        checks.is("README.md has an example", calls >= LEAST_CALLS);
        checks.end();
    }

    private static String answer(GreenButtons navy, String name, String told) throws ReflectiveOperationException {
        String[] words = told.isEmpty() ? new String[0] : told.split(", ");
        for (Method method : GreenButtons.class.getMethods()) {
            if (method.getName().equals(name) && method.getParameterCount() == words.length) {
                Object[] values = new Object[words.length];
                for (int i = 0; i < words.length; i++) {
                    boolean isNumber = method.getParameterTypes()[i] == int.class;
                    values[i] = isNumber ? (Object) Integer.valueOf(words[i]) : Boolean.valueOf(words[i]);
                }
                try {
                    return String.valueOf(method.invoke(navy, values));
                } catch (InvocationTargetException thrown) {
                    return thrown.getCause().getClass().getSimpleName();
                }
            }
        }
        return "no such call";
    }
}
