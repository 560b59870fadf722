import java.io.IOException;
import java.lang.reflect.Method;
import java.lang.reflect.Modifier;
import java.nio.file.Files;
import java.nio.file.Path;
import java.util.ArrayList;
import java.util.Arrays;
import java.util.List;
import java.util.regex.Matcher;
import java.util.regex.Pattern;

/** The example of README.md answers what it says, and its tables name every method. */
public final class ReadmeTest {
    private static final Pattern EXAMPLE = Pattern.compile("```java\n(.*?)```", Pattern.DOTALL);
    private static final Pattern CALL = Pattern.compile("filter\\.(\\w+)\\((.*?)\\);(?: +// (-?\\d+):.*)?");
    private static final Pattern WHAT = Pattern.compile("(?:8 \\* ([01]) \\+ )?SyscallFilter\\.(\\w+)");
    private static final String MADE = "SyscallFilter filter = new SyscallFilter();";

    private static int wrong = 0;
    private static int checks = 0;

    public static void main(String[] args) throws IOException, ReflectiveOperationException {
        String readme = Files.readString(Path.of("README.md"));
        checkExample(readme);
        checkTables(readme);
        System.out.println(wrong == 0 ? checks + " sayings of README.md hold" : wrong + " faults in README.md");
        if (wrong != 0) {
            System.exit(1);
        }
    }

    private static void check(boolean holds, String text) {
        checks++;
        if (!holds) {
            wrong++;
            System.out.println(text);
        }
    }

    private static void checkExample(String readme) throws ReflectiveOperationException {
        Matcher example = EXAMPLE.matcher(readme);
        if (!example.find()) {
            check(false, "there is no example");
            return;
        }
        SyscallFilter filter = new SyscallFilter();
        int calls = 0;
        for (String line : example.group(1).split("\n")) {
            String text = line.strip();
            if (text.isEmpty() || text.startsWith("//") || text.equals(MADE)) {
                continue;
            }
            checkCall(filter, text);
            calls++;
        }
        check(calls > 0, "the example has no call");
    }

    private static void checkCall(SyscallFilter filter, String line) throws ReflectiveOperationException {
        Matcher call = CALL.matcher(line);
        if (!call.matches()) {
            check(false, "not a call: " + line);
            return;
        }
        int answer = answerTo(filter, call.group(1), call.group(2));
        // A call without a said answer is one that the example takes for granted.
        boolean asSaid = call.group(3) == null ? answer >= 0 : answer == Integer.parseInt(call.group(3));
        check(asSaid, line + " answered " + answer);
    }

    private static int answerTo(SyscallFilter filter, String name, String written)
            throws ReflectiveOperationException {
        List<Integer> numbers = new ArrayList<>();
        for (String number : written.split(", ")) {
            numbers.add(numberOf(number));
        }
        Class<?>[] types = new Class<?>[numbers.size()];
        Arrays.fill(types, int.class);
        Method method = SyscallFilter.class.getMethod(name, types);
        return (Integer) method.invoke(filter, numbers.toArray());
    }

    private static int numberOf(String written) throws ReflectiveOperationException {
        Matcher what = WHAT.matcher(written);
        if (!what.matches()) {
            return Integer.parseInt(written);
        }
        int argument = what.group(1) == null ? 0 : Integer.parseInt(what.group(1));
        return 8 * argument + SyscallFilter.class.getField(what.group(2)).getInt(null);
    }

    private static void checkTables(String readme) {
        for (Method method : SyscallFilter.class.getDeclaredMethods()) {
            if (Modifier.isPublic(method.getModifiers())) {
                String row = "(?m)^\\| `" + method.getName() + "\\(" + parameters(method.getParameterCount()) + "\\)` \\|";
                check(Pattern.compile(row).matcher(readme).find(), "no table has " + method.getName());
            }
        }
    }

    private static String parameters(int count) {
        return count == 0 ? "" : "\\w+" + ", \\w+".repeat(count - 1);
    }
}
