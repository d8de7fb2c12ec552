import java.io.IOException;
import java.lang.reflect.InvocationTargetException;
import java.lang.reflect.Method;
import java.nio.file.Files;
import java.nio.file.Path;
import java.util.regex.Matcher;
import java.util.regex.Pattern;

/** The calls that README.md tells, in their order: each answers what stands behind it. */
public final class ReadmeTest {
    private static final Pattern MADE = Pattern.compile("CurveRingsClosed rings = new CurveRingsClosed\\(\\);");
    private static final Pattern TOLD = Pattern.compile("tell\\(rings, \"([^\"]*)\"\\);");
    private static final Pattern CALL = Pattern.compile("rings\\.(\\w+)\\(([-\\dL, ]*)\\);\\s+// (-?\\d+|throws \\w+)\\b.*");
    private static CurveRingsClosed rings = null;
    private static int wrong = 0;
    private static int calls = 0;

    private static void report(int line, String what) {
        wrong++;
        System.out.println("README.md, line " + line + ": " + what);
    }

    private static String answer(String name, String[] numbers) throws IllegalAccessException {
        for (Method method : CurveRingsClosed.class.getMethods()) {
            Class<?>[] types = method.getParameterTypes();
            if (!method.getName().equals(name) || types.length != numbers.length) {
                continue;
            }
            Object[] given = new Object[types.length];
            for (int i = 0; i < given.length; i++) {
                long number = Long.parseLong(numbers[i].trim().replace("L", ""));
                if (types[i] == long.class) {
                    given[i] = number;
                } else {
                    given[i] = Math.toIntExact(number);
                }
            }
            try {
                return method.invoke(rings, given).toString();
            } catch (InvocationTargetException e) {
                return "throws " + e.getCause().getClass().getSimpleName();
            }
        }
        return "no such call";
    }

    private static void ask(int line, String text) throws IllegalAccessException {
        Matcher told = TOLD.matcher(text);
        Matcher call = CALL.matcher(text);
        if (MADE.matcher(text).matches()) {
            rings = new CurveRingsClosed();
        } else if (told.matches()) {
            Checks.feed(rings, told.group(1));
        } else if (call.matches()) {
            String[] numbers = call.group(2).isEmpty() ? new String[0] : call.group(2).split(",");
            String got = answer(call.group(1), numbers);
            calls++;
            if (!got.equals(call.group(3))) {
                report(line, text + " answered " + got);
            }
        } else {
            report(line, "not read: " + text);
        }
    }

    public static void main(String[] args) throws IOException, IllegalAccessException {
        String[] lines = Files.readString(Path.of("README.md")).split("\n");
        boolean code = false;
        for (int i = 0; i < lines.length; i++) {
            if (lines[i].startsWith("```")) {
                code = lines[i].equals("```java") && !lines[i + 1].startsWith("static");
            } else if (code) {
                ask(i + 1, lines[i]);
            }
        }
        if (calls < 50) {
            report(lines.length, "only " + calls + " calls were read");
        }
        System.out.println(wrong == 0 ? "ReadmeTest: all " + calls + " calls answer so" : wrong + " lines of README.md are wrong");
        System.exit(wrong == 0 ? 0 : 1);
    }
}
