import java.io.IOException;
import java.lang.reflect.InvocationTargetException;
import java.lang.reflect.Method;
import java.lang.reflect.Modifier;
import java.nio.file.Files;
import java.nio.file.Path;
import java.util.Set;
import java.util.TreeSet;
import java.util.regex.Matcher;
import java.util.regex.Pattern;

/** The calls that README.md shows answer what it tells behind them. Run where README.md is. */
public final class ReadmeTest {
    private static final String NEW_OBJECT = "WriterDesk desk = new WriterDesk();";
    private static final Pattern CALL = Pattern.compile("desk\\.(\\w+)\\((.*)\\); *// (.*)");
    private static final Pattern ANSWER = Pattern.compile("(-?\\d+|true|false|\\w+Exception): .*");
    private static final Pattern RESULT = Pattern.compile(".*the result is (empty|\\d( \\d)*)");

    private static WriterDesk desk;
    private static final Set<String> CALLED = new TreeSet<>();

    private ReadmeTest() {
    }

    public static void main(String[] args) throws IOException, IllegalAccessException {
        boolean shown = false;
        for (String line : Files.readAllLines(Path.of("README.md"))) {
            if (line.startsWith("```")) {
                shown = line.equals("```java");
            } else if (shown) {
                follow(line);
            }
        }
        Set<String> face = new TreeSet<>();
        for (Method method : WriterDesk.class.getDeclaredMethods()) {
            if (method.getModifiers() == Modifier.PUBLIC) {
                face.add(method.getName());
            }
        }
        Check.equal("calls that are shown", CALLED, face);
        Check.finish();
    }

    private static void follow(String line) throws IllegalAccessException {
        if (line.equals(NEW_OBJECT)) {
            desk = new WriterDesk();
            return;
        }
        Matcher call = CALL.matcher(line);
        boolean isCall = call.matches();
        Check.equal(line + " is a call with a remark", isCall, true);
        if (isCall) {
            makeCall(line, methodOf(call.group(1)), argumentsOf(call.group(2)), call.group(3));
        }
    }

    private static void makeCall(String line, Method method, Object[] arguments, String remark)
            throws IllegalAccessException {
        CALLED.add(method.getName());
        String got;
        try {
            got = String.valueOf(method.invoke(desk, arguments));
        } catch (InvocationTargetException e) {
            got = e.getCause().getClass().getSimpleName();
        }
        Matcher answer = ANSWER.matcher(remark);
        Check.equal(line, got, answer.matches() ? answer.group(1) : "null");
        Matcher result = RESULT.matcher(remark);
        if (result.matches()) {
            Check.result(line, desk, result.group(1).replaceAll("empty| ", ""));
        }
    }

    private static Method methodOf(String name) {
        for (Method method : WriterDesk.class.getDeclaredMethods()) {
            if (method.getName().equals(name)) {
                return method;
            }
        }
        throw new IllegalArgumentException(name);
    }

    private static Object[] argumentsOf(String texts) {
        String[] parts = texts.split(", ");
        Object[] values = new Object[parts.length];
        for (int i = 0; i < parts.length; i++) {
            int value = 0;
            for (String term : parts[i].split(" \\| ")) {
                value |= valueOf(term);
            }
            values[i] = value;
        }
        return values;
    }

    private static int valueOf(String term) {
        if (term.equals("WriterDesk.NONE")) {
            return WriterDesk.NONE;
        }
        String[] parts = term.split(" << ");
        return Integer.parseInt(parts[0]) << (parts.length > 1 ? Integer.parseInt(parts[1]) : 0);
    }
}
