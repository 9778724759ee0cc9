import java.io.IOException;
import java.lang.reflect.Method;
import java.nio.file.Files;
import java.nio.file.Path;
import java.util.regex.Matcher;
import java.util.regex.Pattern;

/** The answers that README.md puts behind the calls of its example are those of the class; and it names each call. */
public final class ReadmeTest {
    private static final Pattern CALL = Pattern.compile("^shop\\.(\\w+)\\(([^)]*)\\);\\s+// (-?\\d+(?:\\.\\d+)?)");

    public static void main(String[] args) throws IOException, ReflectiveOperationException {
        String readme = Files.readString(Path.of("README.md"));
        CobblerCodes shop = new CobblerCodes();
        int calls = 0;
        for (String line : readme.split("\n")) {
            Matcher m = CALL.matcher(line);
            if (m.find()) {
                Check.due(line, answer(shop, m.group(1), m.group(2)), m.group(3));
                calls++;
            }
        }
        Check.due("calls of the example", calls, 12);
        for (Method method : CobblerCodes.class.getMethods()) {
            if (method.getDeclaringClass() == CobblerCodes.class) {
                Check.due("README.md names " + method.getName(), readme.contains("| `" + method.getName() + "("), true);
            }
        }
        Check.end();
    }

    private static String answer(CobblerCodes shop, String name, String numbers) throws ReflectiveOperationException {
        String[] parts = numbers.isEmpty() ? new String[0] : numbers.split(", ");
        Object[] values = new Object[parts.length];
        Class<?>[] types = new Class<?>[parts.length];
        for (int k = 0; k < parts.length; k++) {
            values[k] = Integer.valueOf(parts[k]);
            types[k] = int.class;
        }
        return CobblerCodes.class.getMethod(name, types).invoke(shop, values).toString();
    }
}
