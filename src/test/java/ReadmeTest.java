import java.lang.reflect.Method;
import java.nio.file.Files;
import java.nio.file.Path;
import java.util.regex.Matcher;
import java.util.regex.Pattern;

/** The calls of README.md's example answer what stands behind them. */
public final class ReadmeTest {
    private static final Pattern BLOCK = Pattern.compile("(?s)```java\n(.*?)```");
    private static final Pattern CALL = Pattern.compile("x\\.(\\w+)\\((.*?)\\); +// (-?\\d+): .*");
    private static int wrong;

    private static void fail(String what) {
        wrong++;
        System.out.println(what);
    }

    private static Object[] numbers(String list) {
        if (list.isEmpty()) {
            return new Object[0];
        }
        String[] parts = list.split(", ");
        Object[] numbers = new Object[parts.length];
        for (int i = 0; i < parts.length; i++) {
            numbers[i] = (int) (long) Long.decode(parts[i]);
        }
        return numbers;
    }

    private static int answer(RunTapes x, String name, Object[] numbers) throws Exception {
        for (Method m : RunTapes.class.getMethods()) {
            if (m.getName().equals(name) && m.getParameterCount() == numbers.length) {
                return (Integer) m.invoke(x, numbers);
            }
        }
        throw new IllegalArgumentException("no such call: " + name);
    }

    private static int makeCalls(String block) throws Exception {
        RunTapes x = null;
        int calls = 0;
        for (String line : block.split("\n")) {
            if (line.equals("RunTapes x = new RunTapes();")) {
                x = new RunTapes();
                continue;
            }
            Matcher m = CALL.matcher(line);
            if (x == null || !m.matches()) {
                fail("no call with its answer: " + line);
                continue;
            }
            int got = answer(x, m.group(1), numbers(m.group(2)));
            calls++;
            if (got != Integer.parseInt(m.group(3))) {
                fail("answered " + got + ": " + line);
            }
        }
        return calls;
    }

    public static void main(String[] args) throws Exception {
        Matcher block = BLOCK.matcher(Files.readString(Path.of("README.md")));
        int calls = 0;
        while (block.find()) {
            calls += makeCalls(block.group(1));
        }
        if (calls == 0) {
            fail("README.md has no example");
        }
        System.out.println(wrong == 0 ? calls + " calls of README.md answer as it says" : wrong + " lines of README.md do not hold");
        if (wrong != 0) {
            System.exit(1);
        }
    }
}
