import java.lang.reflect.Field;
import java.lang.reflect.Method;
import java.nio.file.Files;
import java.nio.file.Path;
import java.util.HashSet;
import java.util.List;
import java.util.Set;
import java.util.regex.Matcher;
import java.util.regex.Pattern;

/** The examples of README.md: each call answers what stands behind it, and each public call is shown. */
public final class ReadmeTest {
    private static final Pattern CALL = Pattern.compile("x\\.(\\w+)\\(([^)]*)\\);\\s*// (-?\\d+|[A-Z]+)(:.*)?");
    private static final Pattern CONSTANT = Pattern.compile("`([A-Z]+)`");
    private static WidenedBanks x = null;

    public static void main(String[] args) throws Exception {
        List<String> lines = Files.readAllLines(Path.of("README.md"));
        Set<String> shown = new HashSet<>();
        boolean inside = false;
        for (String line : lines) {
            if (line.startsWith("```")) {
                inside = line.equals("```java");
            } else if (inside) {
                example(line, shown);
            }
        }
        for (Method method : WidenedBanks.class.getMethods()) {
            if (method.getDeclaringClass() == WidenedBanks.class) {
                Due.holds("README.md shows " + method.getName(), shown.contains(method.getName()));
            }
        }
        constants(lines);
        Due.end();
    }

    private static void example(String line, Set<String> shown) throws ReflectiveOperationException {
        if (line.equals("WidenedBanks x = new WidenedBanks();")) {
            x = new WidenedBanks();
            return;
        }
        Matcher call = CALL.matcher(line);
        if (!call.matches() || x == null) {
            Due.fail("README.md: can't read " + line);
            return;
        }
        shown.add(call.group(1));
        Due.due("README.md: " + line, answer(call.group(1), call.group(2)), told(call.group(3)));
    }

    private static long answer(String name, String told) throws ReflectiveOperationException {
        String[] arguments = told.isEmpty() ? new String[0] : told.split(", ");
        for (Method method : WidenedBanks.class.getMethods()) {
            if (method.getName().equals(name) && method.getParameterCount() == arguments.length) {
                Object[] values = new Object[arguments.length];
                for (int i = 0; i < values.length; i++) {
                    values[i] = value(arguments[i], method.getParameterTypes()[i]);
                }
                return ((Number) method.invoke(x, values)).longValue();
            }
        }
        throw new NoSuchMethodException(name + "(" + told + ")");
    }

    private static Object value(String text, Class<?> type) {
        return type == long.class ? (Object) Long.valueOf(text.replace("L", "")) : (Object) Integer.valueOf(text);
    }

    private static long told(String text) throws ReflectiveOperationException {
        return Character.isUpperCase(text.charAt(0)) ? WidenedBanks.class.getField(text).getInt(null) : Long.parseLong(text);
    }

    private static void constants(List<String> lines) {
        Set<String> named = new HashSet<>();
        for (String line : lines) {
            Matcher constant = CONSTANT.matcher(line);
            while (line.startsWith("| `") && constant.find()) {
                named.add(constant.group(1));
            }
        }
        Set<String> there = new HashSet<>();
        for (Field field : WidenedBanks.class.getFields()) {
            there.add(field.getName());
        }
        Due.holds("README.md tells of each constant, and of no other: " + named, named.equals(there));
    }
}
