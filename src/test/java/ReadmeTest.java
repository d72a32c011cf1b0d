import java.io.IOException;
import java.lang.reflect.Method;
import java.lang.reflect.Modifier;
import java.nio.file.Files;
import java.nio.file.Path;
import java.util.regex.Matcher;
import java.util.regex.Pattern;

/** The calls in README.md answer what it says they do, and each call of the class is named there. */
public final class ReadmeTest {
    private static final Dues DUES = new Dues("readme");
    private static final Pattern CALL = Pattern.compile("(?m)^x\\.(\\w+)\\(([^)]*)\\);\\s*// (-?\\d+)");

    public static void main(String[] args) throws IOException, ReflectiveOperationException {
        String text = Files.readString(Path.of("README.md"));
        MarkTables x = new MarkTables();
        Matcher calls = CALL.matcher(text);
        int told = 0;
        while (calls.find()) {
            long want = Long.parseLong(calls.group(3));
            DUES.due(calls.group(), answer(x, calls.group(1), calls.group(2)), want);
            told++;
        }
        DUES.due("all calls of the example have an answer", told, text.split("(?m)^x\\.", -1).length - 1);
        for (Method method : MarkTables.class.getDeclaredMethods()) {
            if (Modifier.isPublic(method.getModifiers())) {
                DUES.isTrue(method.getName() + " is named", text.contains("`" + method.getName() + "`"));
            }
        }
        DUES.end();
    }

    private static long answer(MarkTables x, String name, String numbers) throws ReflectiveOperationException {
        String[] parts = numbers.isEmpty() ? new String[0] : numbers.split(",\\s*");
        for (Method method : MarkTables.class.getDeclaredMethods()) {
            if (method.getName().equals(name)) {
                Object[] values = new Object[parts.length];
                for (int i = 0; i < parts.length; i++) {
                    long value = Long.parseLong(parts[i]);
                    values[i] = method.getParameterTypes()[i] == long.class ? (Object) value : (Object) (int) value;
                }
                return ((Number) method.invoke(x, values)).longValue();
            }
        }
        throw new NoSuchMethodException(name);
    }
}
