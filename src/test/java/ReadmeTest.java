import java.io.IOException;
import java.lang.reflect.Method;
import java.nio.file.Files;
import java.nio.file.Path;
import java.util.HashMap;
import java.util.Map;
import java.util.TreeSet;
import java.util.regex.Matcher;
import java.util.regex.Pattern;

/** What README.md tells of the class: the answers behind its calls, and the table of all calls. */
public final class ReadmeTest {
    private static final Pattern CALL = Pattern.compile("x\\.(\\w+)\\(([-0-9, ]*)\\); +// (.*)");
    private static final Pattern NAME = Pattern.compile("`(\\w+)`");

    public static void main(String[] args) throws IOException, ReflectiveOperationException {
        Map<String, Method> methods = new HashMap<>();
        for (Method method : Editropes.class.getMethods()) {
            if (method.getDeclaringClass() == Editropes.class) {
                methods.put(method.getName(), method);
            }
        }
        Editropes x = new Editropes();
        TreeSet<String> named = new TreeSet<>();
        int calls = 0;
        for (String line : Files.readAllLines(Path.of("README.md"))) {
            Matcher call = CALL.matcher(line);
            if (call.matches()) {
                calls++;
                Object answer = methods.get(call.group(1)).invoke(x, numbers(call.group(2)));
                String told = answer instanceof String ? "\"" + answer + "\"" : answer.toString();
                Checks.same(line, told, call.group(3));
            }
            if (line.startsWith("| ")) {
                NAME.matcher(line).results().forEach(name -> named.add(name.group(1)));
            }
        }
        Checks.same("calls were found", calls > 20, true);
        Checks.same("the calls of the table", named, new TreeSet<>(methods.keySet()));
        Checks.end();
    }

    private static Object[] numbers(String told) {
        String[] parts = told.isEmpty() ? new String[0] : told.split(", ");
        Object[] numbers = new Object[parts.length];
        for (int i = 0; i < parts.length; i++) {
            numbers[i] = Integer.valueOf(parts[i]);
        }
        return numbers;
    }
}
