import java.io.IOException;
import java.lang.reflect.Method;
import java.lang.reflect.Modifier;
import java.nio.file.Files;
import java.nio.file.Path;
import java.util.Map;
import java.util.regex.Matcher;
import java.util.regex.Pattern;

/** The run that README.md shows, each call with the answer behind it. Run in the project's root, as .ci/run does. */
public final class ReadmeTest {
    private static final String START = "ShadowAlms x = new ShadowAlms();";
    private static final Pattern FEED = Pattern.compile("feed\\(x, \"(.*)\"\\);");
    private static final Pattern CALL = Pattern.compile("x\\.(\\w+)\\((.*)\\);\\s+// (-?\\d+|[A-Z]+)(:.*)?");
    private static final Map<String, Integer> REFUSALS =
        Map.of("UNKNOWN", Due.UNKNOWN, "OUTSIDE", Due.OUTSIDE, "NOT", Due.NOT, "FULL", Due.FULL);

    public static void main(String[] args) throws IOException, ReflectiveOperationException {
        String readme = Files.readString(Path.of("README.md"));
        int start = readme.indexOf(START);
        int end = readme.indexOf("```", Math.max(0, start));
        Due.is("README.md shows a run", start >= 0 && end > start ? 1 : 0, 1);
        if (start >= 0 && end > start) {
            run(readme.substring(start + START.length(), end));
        }
        everyCallIsTold(readme);
        Due.end();
    }

    private static void run(String shown) throws ReflectiveOperationException {
        ShadowAlms x = new ShadowAlms();
        for (String line : shown.strip().split("\n")) {
            Matcher fed = FEED.matcher(line);
            Matcher called = CALL.matcher(line);
            if (fed.matches()) {
                Due.feed(x, fed.group(1));
            } else if (called.matches()) {
                String answer = called.group(3);
                int due = REFUSALS.containsKey(answer) ? REFUSALS.get(answer) : Integer.parseInt(answer);
                Due.is(line, call(x, called.group(1), called.group(2)), due);
            } else {
                Due.is("README.md's line is no call with an answer: " + line, 0, 1);
            }
        }
    }

    private static int call(ShadowAlms x, String name, String told) throws ReflectiveOperationException {
        String[] numbers = told.isEmpty() ? new String[0] : told.split(", ");
        Object[] given = new Object[numbers.length];
        Class<?>[] types = new Class<?>[numbers.length];
        for (int i = 0; i < numbers.length; i++) {
            given[i] = Integer.valueOf(numbers[i]);
            types[i] = int.class;
        }
        return (Integer) ShadowAlms.class.getMethod(name, types).invoke(x, given);
    }

    private static void everyCallIsTold(String readme) {
        for (Method method : ShadowAlms.class.getDeclaredMethods()) {
            if (Modifier.isPublic(method.getModifiers())) {
                boolean told = Pattern.compile("(?m)^\\|.*`" + method.getName() + "\\(").matcher(readme).find();
                Due.is("README.md tells " + method.getName(), told ? 1 : 0, 1);
            }
        }
    }
}
