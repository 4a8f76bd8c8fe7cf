import java.io.IOException;
import java.lang.reflect.Method;
import java.nio.file.Files;
import java.nio.file.Path;
import java.util.HashSet;
import java.util.List;
import java.util.Set;
import java.util.regex.Matcher;
import java.util.regex.Pattern;

/** What README.md tells of the use of the class: its example is run, and no call may be left out. */
public final class ReadmeTest {
    private static final Pattern EXAMPLE = Pattern.compile("x\\.(\\w+)\\(([-\\d, ]*)\\); *// (-?\\d+)(:.*)?");
    private static final Pattern TABLE_ROW = Pattern.compile("\\| `(\\w+)\\((.*?)\\)` \\|.*");

    private ReadmeTest() {
    }

    public static void main(String[] args) throws IOException, ReflectiveOperationException {
        List<String> lines = Files.readAllLines(Path.of("README.md"));
        Set<String> shown = runExample(lines);
        Set<String> listed = listedCalls(lines);
        for (Method method : CreditNetwork.class.getMethods()) {
            if (method.getDeclaringClass() == CreditNetwork.class) {
                String call = method.getName() + " with " + method.getParameterCount();
                Check.holds("README.md shows " + call, shown.contains(call));
                Check.holds("README.md lists " + call, listed.contains(call));
            }
        }
        Check.end();
    }

    private static Set<String> runExample(List<String> lines) throws ReflectiveOperationException {
        Set<String> shown = new HashSet<>();
        CreditNetwork x = new CreditNetwork();
        for (String line : lines) {
            if (line.startsWith("x.")) {
                Matcher example = EXAMPLE.matcher(line);
                Check.holds("README.md says what is answered: " + line, example.matches());
                if (example.matches()) {
                    Object[] given = numbers(example.group(2));
                    int answer = call(x, example.group(1), given);
                    Check.due("README.md: " + line, answer, Integer.parseInt(example.group(3)));
                    shown.add(example.group(1) + " with " + given.length);
                }
            }
        }
        return shown;
    }

    private static Set<String> listedCalls(List<String> lines) {
        Set<String> listed = new HashSet<>();
        for (String line : lines) {
            Matcher row = TABLE_ROW.matcher(line);
            if (row.matches()) {
                listed.add(row.group(1) + " with " + parts(row.group(2)).length);
            }
        }
        return listed;
    }

    private static String[] parts(String arguments) {
        return arguments.isEmpty() ? new String[0] : arguments.split(", *");
    }

    private static Object[] numbers(String arguments) {
        String[] parts = parts(arguments);
        Object[] numbers = new Object[parts.length];
        for (int i = 0; i < parts.length; i++) {
            numbers[i] = Integer.parseInt(parts[i]);
        }
        return numbers;
    }

    private static int call(CreditNetwork x, String name, Object[] given) throws ReflectiveOperationException {
        Class<?>[] types = new Class<?>[given.length];
        for (int i = 0; i < types.length; i++) {
            types[i] = int.class;
        }
        return (Integer) CreditNetwork.class.getMethod(name, types).invoke(x, given);
    }
}
