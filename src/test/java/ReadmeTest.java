import java.io.IOException;
import java.lang.reflect.Method;
import java.lang.reflect.Modifier;
import java.nio.file.Files;
import java.nio.file.Path;
import java.util.HashSet;
import java.util.Set;
import java.util.regex.Matcher;
import java.util.regex.Pattern;

/** The calls that README.md shows answer as it says, and every method is shown. Run where README.md is. */
final class ReadmeTest {
    private static final Check C = new Check("readme");
    private static final Pattern CALL = Pattern.compile("x\\.(\\w+)\\(([^)]*)\\); +// (-?\\d+)(:.*)?");

    public static void main(String[] args) throws IOException, ReflectiveOperationException {
        ForceNet x = new ForceNet();
        Set<String> shown = new HashSet<>();
        boolean isCode = false;
        for (String line : Files.readAllLines(Path.of("README.md"))) {
            if (line.startsWith("```")) {
                isCode = line.equals("```java");
            } else if (isCode && line.startsWith("x.")) {
                Matcher call = CALL.matcher(line);
                C.due("a call and its answer: " + line, call.matches() ? 1 : 0, 1);
                C.due(line, answer(x, call.group(1), call.group(2)), Long.parseLong(call.group(3)));
                shown.add(call.group(1));
            }
        }
        for (Method method : ForceNet.class.getDeclaredMethods()) {
            boolean isFace = Modifier.isPublic(method.getModifiers());
            C.due(method.getName() + " is shown", !isFace || shown.contains(method.getName()) ? 1 : 0, 1);
        }
        C.end();
    }

    private static long answer(ForceNet x, String name, String numbers) throws ReflectiveOperationException {
        String[] texts = numbers.isEmpty() ? new String[0] : numbers.split(", ");
        for (Method method : ForceNet.class.getMethods()) {
            if (method.getName().equals(name) && method.getParameterCount() == texts.length) {
                Object[] values = new Object[texts.length];
                for (int i = 0; i < values.length; i++) {
                    long value = Long.decode(texts[i].replace("L", ""));
                    // Not by ?: , which would make a long of both.
                    if (method.getParameterTypes()[i] == long.class) {
                        values[i] = value;
                    } else {
                        values[i] = (int) value;
                    }
                }
                return ((Number) method.invoke(x, values)).longValue();
            }
        }
        throw new NoSuchMethodException(name);
    }
}
