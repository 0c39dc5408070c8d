import java.io.IOException;
import java.lang.reflect.Method;
import java.lang.reflect.Modifier;
import java.nio.file.Files;
import java.nio.file.Path;
import java.util.Set;
import java.util.TreeSet;
import java.util.regex.Matcher;
import java.util.regex.Pattern;

/** Makes the calls that README.md shows, and compares the answers that stand behind them. */
public final class ReadmeTest {
    private static final Pattern CALL = Pattern.compile("x\\.(\\w+)\\(([^)]*)\\);\\s+// (-?\\w+)(?:$|[: ].*)");

    public static void main(String[] args) throws ReflectiveOperationException, IOException {
        String readme = Files.readString(Path.of("README.md"));
        everyCallIsNamed(readme);
        int shown = 0;
        CaseBefore x = new CaseBefore();
        for (String line : block(readme).split("\n")) {
            if (!line.startsWith("x.")) {
                continue;
            }
            shown++;
            Matcher m = CALL.matcher(line);
            if (m.matches()) {
                Due.is(line, answer(x, m.group(1), m.group(2)), due(m.group(3)));
            } else {
                Due.differs("not a call with its answer: " + line);
            }
        }
        Due.is("README.md shows calls", shown > 20, true);
        Due.end();
    }

    private static String block(String readme) {
        int from = readme.indexOf("```java\n");
        int to = readme.indexOf("```\n", from + 1);
        return from < 0 || to < 0 ? "" : readme.substring(from + "```java\n".length(), to);
    }

    private static void everyCallIsNamed(String readme) {
        Set<String> named = new TreeSet<>();
        Matcher m = Pattern.compile("`(\\w+)[(`]").matcher(readme.substring(readme.indexOf("### The calls")));
        while (m.find()) {
            named.add(m.group(1));
        }
        for (Method method : CaseBefore.class.getDeclaredMethods()) {
            if (Modifier.isPublic(method.getModifiers())) {
                Due.is("README.md names " + method.getName(), named.contains(method.getName()), true);
            }
        }
    }

    private static long answer(CaseBefore x, String name, String arguments) throws ReflectiveOperationException {
        String[] parts = arguments.isEmpty() ? new String[0] : arguments.split(",\\s*");
        for (Method method : CaseBefore.class.getDeclaredMethods()) {
            if (method.getName().equals(name) && method.getParameterCount() == parts.length) {
                Object[] values = new Object[parts.length];
                for (int i = 0; i < parts.length; i++) {
                    values[i] = method.getParameterTypes()[i] == boolean.class ? (Object) parts[i].equals("true") : (Object) number(parts[i]);
                }
                Object got = method.invoke(x, values);
                return got instanceof Boolean ? (Boolean) got ? 1 : 0 : (Integer) got;
            }
        }
        Due.differs("no such call: " + name);
        return Long.MIN_VALUE;
    }

    private static int number(String part) {
        return part.startsWith("0x") ? Integer.parseUnsignedInt(part.substring(2), 16) : Integer.parseInt(part);
    }

    private static long due(String answer) {
        switch (answer) {
            case "true": return 1;
            case "false": return 0;
            case "NONE": return CaseBefore.NONE;
            default: return Long.parseLong(answer);
        }
    }
}
