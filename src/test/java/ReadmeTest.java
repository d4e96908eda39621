import java.lang.reflect.InvocationTargetException;
import java.lang.reflect.Method;
import java.nio.file.Files;
import java.nio.file.Path;
import java.util.List;
import java.util.Set;
import java.util.TreeSet;
import java.util.regex.Matcher;
import java.util.regex.Pattern;

/**
 * The calls which README.md shows as examples answer as README.md says. They are read from the file
 * itself, so that neither can go on without the other.
 */
public final class ReadmeTest {
    private static final Pattern NEW_LINK =
        Pattern.compile("SelectiveLink link = new SelectiveLink\\(\\);(\\s+//.*)?");
    private static final Pattern CALL =
        Pattern.compile("link\\.(\\w+)\\(([-\\dL, ]*)\\);\\s+// (.+)");
    private static final Pattern ANSWER =
        Pattern.compile("(true|false|NONE|-?\\d+|throws \\w+)(:.*)?");

    private static final Set<String> shown = new TreeSet<>();
    private static SelectiveLink link;

    public static void main(String[] args) throws Exception {
        boolean example = false;
        List<String> lines = Files.readAllLines(Path.of("README.md"));
        for (String line : lines) {
            if (line.startsWith("```")) {
                example = line.equals("```java");
            } else if (example && !line.isBlank()) {
                follow(line);
            }
        }
        everyCallIsShown();
        Check.finish();
    }

    private static void follow(String line) throws IllegalAccessException {
        if (NEW_LINK.matcher(line).matches()) {
            link = new SelectiveLink();
            return;
        }
        Matcher call = CALL.matcher(line);
        if (link == null || !call.matches()) {
            Check.due("README.md's line is a call with its answer: " + line, false, true);
            return;
        }
        Method method = methodOf(call.group(1));
        String got = answerOf(method, valuesOf(method, call.group(2)));
        shown.add(method.getName());
        compare(line, method, got, call.group(3));
    }

    private static Method methodOf(String name) {
        for (Method method : SelectiveLink.class.getMethods()) {
            if (method.getDeclaringClass() == SelectiveLink.class && method.getName().equals(name)) {
                return method;
            }
        }
        throw new IllegalArgumentException("README.md shows a call that there is not: " + name);
    }

    private static Object[] valuesOf(Method method, String written) {
        String[] texts = written.isEmpty() ? new String[0] : written.split(", ");
        Class<?>[] types = method.getParameterTypes();
        if (texts.length != types.length) {
            throw new IllegalArgumentException("README.md shows " + method + " with (" + written + ")");
        }
        Object[] values = new Object[texts.length];
        for (int i = 0; i < texts.length; i++) {
            // Two ways of writing, as in Java: only a long has an L behind it.
            values[i] = types[i] == long.class && texts[i].endsWith("L")
                ? (Object) Long.parseLong(texts[i].substring(0, texts[i].length() - 1))
                : (Object) Integer.parseInt(texts[i]);
        }
        return values;
    }

    private static String answerOf(Method method, Object[] values) throws IllegalAccessException {
        try {
            return String.valueOf(method.invoke(link, values));
        } catch (InvocationTargetException e) {
            return "throws " + e.getCause().getClass().getSimpleName();
        }
    }

    private static void compare(String line, Method method, String got, String comment) {
        Matcher answer = ANSWER.matcher(comment);
        String want = answer.matches() ? answer.group(1) : null;
        if (want == null && method.getReturnType() == void.class) {
            // A call without an answer has nothing but an explanation behind it; it must not throw.
            want = "null";
        }
        if ("NONE".equals(want)) {
            want = String.valueOf(SelectiveLink.NONE);
        }
        Check.due("README.md: " + line + " (answered " + got + ")", got.equals(want), true);
    }

    private static void everyCallIsShown() {
        for (Method method : SelectiveLink.class.getMethods()) {
            if (method.getDeclaringClass() == SelectiveLink.class) {
                String name = method.getName();
                Check.due("README.md shows " + name, shown.contains(name), true);
            }
        }
    }
}
