import java.io.IOException;
import java.lang.reflect.Method;
import java.lang.reflect.Modifier;
import java.nio.file.Files;
import java.nio.file.Path;
import java.util.TreeSet;
import java.util.regex.Matcher;
import java.util.regex.Pattern;

/** The calls of README.md, one behind the other, have the answers that stand there; each call is among them. */
public final class ReadmeTest {
    private static final Pattern CALL = Pattern.compile("x\\.(\\w+)\\((.*?)\\); *// (-?\\d+)(: .*)?");

    public static void main(String[] args) throws IOException, ReflectiveOperationException {
        TreeSet<String> shown = new TreeSet<>();
        AbsentCarpets x = new AbsentCarpets();
        for (String line : Files.readAllLines(readme(args))) {
            if (line.startsWith("x.")) {
                Matcher call = CALL.matcher(line);
                Check.holds("a call and its answer: " + line, call.matches());
                if (call.matches()) {
                    shown.add(call.group(1));
                    Check.due(line, answer(x, call.group(1), call.group(2)), Long.parseLong(call.group(3)));
                }
            }
        }
        for (Method method : AbsentCarpets.class.getDeclaredMethods()) {
            if (Modifier.isPublic(method.getModifiers())) {
                Check.holds(method.getName() + " is shown", shown.contains(method.getName()));
            }
        }
        Check.end();
    }

    private static Path readme(String[] args) {
        Path source = Path.of(args.length > 0 ? args[0] : "src/main/java/AbsentCarpets.java");
        return source.toAbsolutePath().getParent().resolve("../../../README.md");
    }

    private static long answer(AbsentCarpets x, String name, String words) throws ReflectiveOperationException {
        for (Method method : AbsentCarpets.class.getDeclaredMethods()) {
            if (method.getName().equals(name)) {
                String[] told = words.isEmpty() ? new String[0] : words.split(", ");
                Object[] values = new Object[told.length];
                for (int i = 0; i < told.length; i++) {
                    values[i] = value(method.getParameterTypes()[i], told[i]);
                }
                return ((Number) method.invoke(x, values)).longValue();
            }
        }
        throw new NoSuchMethodException(name);
    }

    private static Object value(Class<?> type, String told) {
        if (type == boolean.class) {
            return Boolean.valueOf(told);
        }
        long number = Long.decode(told.replace("L", ""));
        return type == int.class ? (Object) Math.toIntExact(number) : (Object) number;
    }
}
