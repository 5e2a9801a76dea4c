import java.lang.reflect.InvocationTargetException;
import java.lang.reflect.Method;
import java.nio.file.Files;
import java.nio.file.Path;
import java.util.regex.Matcher;
import java.util.regex.Pattern;

/** The calls that README.md tells, one behind the other, answer what it tells beside them. */
public final class ReadmeTest extends Checks {
    private static final Pattern TEXT = Pattern.compile("tell\\(x, \"(.*)\"\\); +// (-?\\d+)\\b.*");
    private static final Pattern CALL = Pattern.compile("x\\.(\\w+)\\((.*)\\); +// (-?\\d+|throws \\w+)\\b.*");

    public static void main(String[] args) throws Exception {
        PatentRaces x = new PatentRaces();
        int calls = 0;
        for (String line : Files.readAllLines(Path.of("README.md"))) {
            about(line);
            Matcher text = TEXT.matcher(line);
            Matcher call = CALL.matcher(line);
            if (text.matches()) {
                due(Long.parseLong(text.group(2)), "it", () -> tell(x, text.group(1)));
                calls++;
            } else if (call.matches()) {
                String got = ask(x, call.group(1), call.group(2));
                check(got.equals(call.group(3)), "it answered " + got);
                calls++;
            } else {
                check(!line.matches("(x\\.|tell).*"), "a call without an answer");
            }
        }
        about("README.md");
        check(calls > 30, "just " + calls + " calls are told");
        end("README.md tells what is answered");
    }

    private static String ask(PatentRaces x, String name, String told) throws IllegalAccessException {
        String[] words = told.isEmpty() ? new String[0] : told.split(", ");
        Object[] numbers = new Object[words.length];
        for (int i = 0; i < words.length; i++) {
            numbers[i] = Integer.valueOf(words[i]);
        }
        for (Method m : PatentRaces.class.getMethods()) {
            if (m.getName().equals(name) && m.getParameterCount() == numbers.length) {
                try {
                    return String.valueOf(m.invoke(x, numbers));
                } catch (InvocationTargetException e) {
                    return "throws " + e.getCause().getClass().getSimpleName();
                }
            }
        }
        return "no such call";
    }
}
