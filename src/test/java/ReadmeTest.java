import java.io.IOException;
import java.lang.reflect.Method;
import java.nio.file.Files;
import java.nio.file.Path;
import java.util.regex.Matcher;
import java.util.regex.Pattern;

/** The example in README.md: each call on a line of its own with a number behind it answers that number. */
public final class ReadmeTest extends Checks {
    private static final Pattern TOWN = Pattern.compile("String town = \"([^\"]*)\";");
    private static final Pattern CALL = Pattern.compile("(?m)^x\\.(\\w+)\\(([^)]*)\\);\\s+// (-?\\d+)\\b");

    private static String example() {
        try {
            String all = Files.readString(Path.of("README.md"));
            int from = all.indexOf("```java\n");
            int to = all.indexOf("```\n", from + 1);
            return from < 0 || to < 0 ? "" : all.substring(from, to);
        } catch (IOException missing) {
            throw new IllegalStateException("README.md", missing);
        }
    }

    private static Object[] numbers(String told) {
        if (told.isBlank()) {
            return new Object[0];
        }
        String[] items = told.split(",");
        Object[] all = new Object[items.length];
        for (int i = 0; i < items.length; i++) {
            all[i] = Integer.valueOf(items[i].trim());
        }
        return all;
    }

    private static long answer(OwnLight x, String name, Object[] numbers) {
        Class<?>[] types = new Class<?>[numbers.length];
        java.util.Arrays.fill(types, int.class);
        try {
            Method method = OwnLight.class.getMethod(name, types);
            return ((Number) method.invoke(x, numbers)).longValue();
        } catch (ReflectiveOperationException none) {
            throw new IllegalStateException(name, none);
        }
    }

    private static void follow(String example) {
        Matcher text = TOWN.matcher(example);
        if (!text.find()) {
            fail("there is no town");
            return;
        }
        OwnLight x = withText(new OwnLight(), 0, text.group(1));
        Matcher call = CALL.matcher(example);
        int calls = 0;
        while (call.find()) {
            due(answer(x, call.group(1), numbers(call.group(2))), Long.parseLong(call.group(3)));
            calls++;
        }
        due(calls, example.lines().filter(line -> line.contains("//")).count());
    }

    public static void main(String[] args) {
        test(0, "README.md's example", () -> follow(example()));
        end();
    }
}
