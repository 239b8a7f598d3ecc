import java.io.IOException;
import java.lang.reflect.Method;
import java.lang.reflect.Modifier;
import java.nio.file.Files;
import java.nio.file.Path;
import java.util.List;
import java.util.regex.Matcher;
import java.util.regex.Pattern;

/** Carries out the calls of the example in README.md, so that what it says of the class stays true. */
public final class ReadmeExample {
    /** A line such as: x.far(5, 1); // -3, the distance */
    private static final Pattern CALL = Pattern.compile(" +x\\.(\\w+)\\(([-0-9, ]*)\\); +// (-?\\d+).*");
    /** A line such as: enter(x, "a=b"); // 0 */
    private static final Pattern ENTRY = Pattern.compile(" +enter\\(x, \"([^\"]+)\"\\); +// (-?\\d+).*");

    private static int wrong = 0;
    private static int calls = 0;

    private static void due(String line, long got, long want) {
        calls++;
        if (got != want) {
            tell(line.trim() + " answered " + got);
        }
    }

    private static void tell(String fault) {
        wrong++;
        System.out.println(fault);
    }

    private static int enter(JoinedTheories x, String text) {
        for (int i = 0; i < text.length(); i++) {
            x.letter(text.charAt(i));
        }
        return x.add();
    }

    private static long call(JoinedTheories x, String name, String numbers) throws ReflectiveOperationException {
        String[] texts = numbers.isBlank() ? new String[0] : numbers.split(", *");
        Object[] arguments = new Object[texts.length];
        Class<?>[] types = new Class<?>[texts.length];
        for (int i = 0; i < texts.length; i++) {
            arguments[i] = Integer.parseInt(texts[i]);
            types[i] = int.class;
        }
        return ((Number) JoinedTheories.class.getMethod(name, types).invoke(x, arguments)).longValue();
    }

    private static void carryOut(List<String> lines) throws ReflectiveOperationException {
        JoinedTheories x = new JoinedTheories();
        for (String line : lines) {
            Matcher entry = ENTRY.matcher(line);
            Matcher call = CALL.matcher(line);
            if (entry.matches()) {
                due(line, enter(x, entry.group(1)), Long.parseLong(entry.group(2)));
            } else if (call.matches()) {
                due(line, call(x, call.group(1), call.group(2)), Long.parseLong(call.group(3)));
            }
        }
        if (calls == 0) {
            tell("README.md has no example");
        }
    }

    private static void checkNames(String text) {
        for (Method method : JoinedTheories.class.getDeclaredMethods()) {
            if (Modifier.isPublic(method.getModifiers()) && !text.contains("`" + method.getName() + "`")) {
                tell("README.md does not name " + method.getName());
            }
        }
    }

    public static void main(String[] args) throws IOException, ReflectiveOperationException {
        Path readme = Path.of("README.md");
        carryOut(Files.readAllLines(readme));
        checkNames(Files.readString(readme));
        System.out.println(calls + " calls of README.md carried out");
        System.out.println(wrong == 0 ? "all answers are as due" : wrong + " faults");
        if (wrong != 0) {
            System.exit(1);
        }
    }
}
