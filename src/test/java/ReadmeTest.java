import java.io.BufferedReader;
import java.io.InputStreamReader;
import java.util.Arrays;
import java.util.List;
import java.util.regex.Matcher;
import java.util.regex.Pattern;
import java.util.stream.Collectors;

/** The example of README.md, which comes in on standard input: every call must answer what stands behind it. */
public final class ReadmeTest {
    private static final Pattern MADE = Pattern.compile("AsyncRings rings = new AsyncRings\\((.*)\\); *// .*");
    private static final Pattern CALL = Pattern.compile("rings\\.(\\w+)\\((.*)\\); *// ([^:]*)(:.*)?");

    private AsyncRings rings;

    /** What a text of the example stands for: true or false, a number, or the names of constants joined by "|". */
    private static Object value(String text) throws ReflectiveOperationException {
        if (text.equals("true") || text.equals("false")) {
            return text.equals("true");
        }
        if (text.matches("-?[0-9]+")) {
            return Integer.parseInt(text);
        }
        int all = 0;
        for (String name : text.split(" \\| ")) {
            all |= AsyncRings.class.getField(name.replaceFirst("^AsyncRings\\.", "")).getInt(null);
        }
        return all;
    }

    private static Object[] values(String list) throws ReflectiveOperationException {
        String[] texts = list.isEmpty() ? new String[0] : list.split(", ");
        Object[] values = new Object[texts.length];
        for (int i = 0; i < texts.length; i++) {
            values[i] = value(texts[i]);
        }
        return values;
    }

    private static Class<?>[] ints(int count) {
        Class<?>[] types = new Class<?>[count];
        Arrays.fill(types, int.class);
        return types;
    }

    private void line(Check check, String line) throws ReflectiveOperationException {
        Matcher made = MADE.matcher(line);
        Matcher call = CALL.matcher(line);
        if (made.matches()) {
            rings = AsyncRings.class.getConstructor(ints(3)).newInstance(values(made.group(1)));
        } else if (call.matches()) {
            Object[] arguments = values(call.group(2));
            Object got = AsyncRings.class.getMethod(call.group(1), ints(arguments.length)).invoke(rings, arguments);
            check.yes(line + " answered " + got, got.equals(value(call.group(3))));
        } else {
            check.yes(line + " is a call with its answer", line.isEmpty());
        }
    }

    private static void example(Check check) {
        List<String> lines = new BufferedReader(new InputStreamReader(System.in)).lines().collect(Collectors.toList());
        List<String> fromExample = lines.subList(lines.indexOf("```java") + 1, lines.size());
        int length = fromExample.indexOf("```");
        check.yes("there is an example", lines.contains("```java") && length > 0);
        ReadmeTest test = new ReadmeTest();
        for (int at = 0; at < length; at++) {
            try {
                test.line(check, fromExample.get(at));
            } catch (ReflectiveOperationException thrown) {
                check.yes(fromExample.get(at) + " does not throw " + thrown, false);
            }
        }
    }

    public static void main(String[] args) {
        Check check = new Check("README.md");
        check.sentence("Each call below has its answer behind it.", ReadmeTest::example);
        check.end();
    }
}
