import java.lang.reflect.Method;
import java.nio.charset.StandardCharsets;
import java.nio.file.Files;
import java.nio.file.Path;
import java.util.regex.Matcher;
import java.util.regex.Pattern;

/** Makes the calls that README.md shows under 'Use', one behind the other. Run it from the project's own directory. */
public final class ReadmeTest {
    private static final Pattern CALL = Pattern.compile("e\\.(\\w+)\\((.*)\\); +// (-?\\d+)(:.*)?");
    private static EvenErrors example = null;
    private static int asked = 0;
    private static int wrong = 0;

    public static void main(String[] args) throws Exception {
        String readme = Files.readString(Path.of("README.md"), StandardCharsets.UTF_8);
        String use = readme.split("(?m)^## Use$", 2)[1].split("(?m)^## ", 2)[0];
        Matcher blocks = Pattern.compile("(?s)```java\n(.*?)```").matcher(use);
        while (blocks.find()) {
            for (String line : blocks.group(1).split("\n")) {
                go(line);
            }
        }
        if (asked == 0) {
            fault("README.md shows no call");
        }
        System.out.println(wrong == 0 ? asked + " answers are as README.md shows them" : wrong + " faults");
        if (wrong != 0) {
            System.exit(1);
        }
    }

    private static void fault(String what) {
        wrong++;
        System.out.println(what);
    }

    private static void go(String line) throws Exception {
        Matcher call = CALL.matcher(line);
        if (line.equals("EvenErrors e = new EvenErrors();")) {
            example = new EvenErrors();
        } else if (!call.matches() || example == null) {
            fault("no call with its answer: " + line);
        } else {
            long got = answer(call.group(1), call.group(2).isEmpty() ? new String[0] : call.group(2).split(", "));
            asked++;
            if (got != Long.parseLong(call.group(3))) {
                fault(line + " answered " + got);
            }
        }
    }

    private static long answer(String name, String[] words) throws Exception {
        for (Method method : EvenErrors.class.getDeclaredMethods()) {
            if (method.getName().equals(name) && method.getParameterCount() == words.length) {
                Object[] values = new Object[words.length];
                for (int k = 0; k < words.length; k++) {
                    long value = words[k].startsWith("'") ? words[k].charAt(1) : Long.parseLong(words[k]);
                    values[k] = method.getParameterTypes()[k] == long.class ? (Object) value : (Object) (int) value;
                }
                return ((Number) method.invoke(example, values)).longValue();
            }
        }
        throw new IllegalStateException("no call " + name + " of " + words.length);
    }
}
