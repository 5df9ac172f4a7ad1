import java.io.IOException;
import java.lang.reflect.Method;
import java.lang.reflect.Modifier;
import java.nio.charset.StandardCharsets;
import java.nio.file.Files;
import java.nio.file.Path;
import java.util.Arrays;
import java.util.Set;
import java.util.TreeSet;
import java.util.regex.Matcher;
import java.util.regex.Pattern;

/** What README.md shows: its calls are made in their order, on one object, and must answer as it says. */
public final class ReadmeTest {
    private static final Pattern CALL = Pattern.compile("x\\.(\\w+)\\(([^)]*)\\); // (-?\\d+|true|false)(: (.*))?");
    private static final String MAKING = "SilentReel x = new SilentReel();";
    private static final int MOST_CALLS = 512;

    private static SilentReel x;
    private static int calls;
    private static final Set<String> shown = new TreeSet<>();

    public static void main(String[] args) throws IOException, ReflectiveOperationException {
        boolean inJava = false;
        for (String line : Files.readAllLines(Path.of("README.md"), StandardCharsets.UTF_8)) {
            if (line.startsWith("```")) {
                inJava = line.equals("```java");
            } else if (inJava) {
                read(line);
            }
        }
        Check.due("calls on one object", calls <= MOST_CALLS, true);
        for (Method method : SilentReel.class.getDeclaredMethods()) {
            if (Modifier.isPublic(method.getModifiers())) {
                Check.due(method.getName() + " is shown", shown.contains(method.getName()), true);
            }
        }
        Check.finish();
    }

    private static void read(String line) throws ReflectiveOperationException {
        Matcher call = CALL.matcher(line);
        if (line.equals(MAKING)) {
            x = new SilentReel();
        } else if (x != null && call.matches()) {
            make(line, call);
        } else {
            Check.due("a line of README.md that is no call with its answer: " + line, 1, 0);
        }
    }

    private static void make(String line, Matcher call) throws ReflectiveOperationException {
        Object[] numbers = numbers(call.group(2));
        Class<?>[] types = new Class<?>[numbers.length];
        Arrays.fill(types, int.class);
        Object answer = SilentReel.class.getMethod(call.group(1), types).invoke(x, numbers);
        Check.due(line + " (answered " + answer + ")", call.group(3).equals(String.valueOf(answer)), true);
        shown.add(call.group(1));
        calls++;
        String why = call.group(5);
        if (why != null && why.startsWith("\"")) {
            Check.due(line + " (it is fed " + fed(numbers) + ")", why.equals(fed(numbers)), true);
        }
    }

    private static Object[] numbers(String text) {
        if (text.isEmpty()) {
            return new Object[0];
        }
        String[] parts = text.split(", ");
        Object[] numbers = new Object[parts.length];
        for (int k = 0; k < parts.length; k++) {
            numbers[k] = Integer.decode(parts[k]);
        }
        return numbers;
    }

    private static String fed(Object[] numbers) {
        StringBuilder text = new StringBuilder("\"");
        for (Object number : numbers) {
            for (int shift = 24; shift >= 0; shift -= 8) {
                text.append((char) ((Integer) number >>> shift & 255));
            }
        }
        return text.append('"').toString();
    }
}
