import java.io.IOException;
import java.lang.reflect.Executable;
import java.lang.reflect.Field;
import java.lang.reflect.Method;
import java.lang.reflect.Modifier;
import java.nio.file.Files;
import java.nio.file.Path;
import java.util.ArrayList;
import java.util.List;
import java.util.Set;
import java.util.TreeSet;
import java.util.regex.Matcher;
import java.util.regex.Pattern;

/** The rules of ../shared/LANGUAGE.md that can be seen in the text of the class, or in the class when compiled. */
public final class LanguageTest {
    private static final Path SOURCE = Path.of("src/main/java/Editropes.java");

    /** Rules 1, 2, 4 and 6: what the class has no need of is not there at all, also where a rule would let it be. */
    private static final List<String> NOT_THERE = List.of(
        "package ", "import ", "->", "::", "try ", "catch ", "finally ", "synchronized ", "assert ", "throw e",
        "super(", "Object ", "double ", "float ", "static {", "native ", "volatile ", "transient ", "hashCode",
        "toString", "Exact(", "System.nanoTime", "System.currentTimeMillis", "System.out", "Thread", "@");

    /** Rule 4: the library's functions that are named by their class. */
    private static final Set<String> LIBRARY = Set.of(
        "Math.max", "Math.min", "Math.floorMod", "Integer.compare", "System.arraycopy");

    public static void main(String[] args) throws IOException {
        String text = Files.readString(SOURCE);
        signsAreAscii(text);
        String code = withoutComments(text);
        for (String part : NOT_THERE) {
            Checks.same("the class has \"" + part + "\"", code.contains(part), false);
        }
        libraryIsTheListed(code);
        exceptionsAreThrownByRule(code);
        methodsAreShort(code);
        List<Class<?>> classes = new ArrayList<>(List.of(Editropes.class.getDeclaredClasses()));
        Checks.same("at most twelve classes", classes.size() + 1 <= 12, true);
        classes.add(Editropes.class);
        for (Class<?> one : classes) {
            looksLikeTheRules(one);
        }
        Checks.end();
    }

    private static void signsAreAscii(String text) {
        Checks.same("all signs are 10 or 32 to 126", text.chars().allMatch(c -> c == 10 || c >= 32 && c <= 126), true);
    }

    /** No text in the class holds the sign of a comment. */
    private static String withoutComments(String text) {
        return text.replaceAll("(?s)/\\*.*?\\*/", "").replaceAll("//[^\n]*", "");
    }

    private static void libraryIsTheListed(String code) {
        Set<String> named = new TreeSet<>();
        Matcher found = Pattern.compile("\\b([A-Z]\\w*[a-z]\\w*\\.\\w+)\\(").matcher(code);
        while (found.find()) {
            named.add(found.group(1));
        }
        Checks.same("the library that is called", named, new TreeSet<>(LIBRARY));
    }

    /** Rule 6: throw new E() alone, E one of both that the document names. */
    private static void exceptionsAreThrownByRule(String code) {
        String rest = code.replaceAll("throw new (IndexOutOfBounds|IllegalArgument)Exception\\(\\);", "");
        Checks.same("another throw", Pattern.compile("\\bthrow\\b").matcher(rest).find(), false);
        String face = rest.replaceAll("throws [A-Za-z, ]+ \\{", "");
        Checks.same("another exception", Pattern.compile("Exception|Error|Throwable").matcher(face).find(), false);
    }

    /** Rule 11: from the line that opens a method to the line that closes it, as far in. */
    private static void methodsAreShort(String code) {
        Matcher method = Pattern.compile("(?m)^( +)[^\n]*\\) (?:throws [^\n]*)?\\{\n(?s:.*?)\n\\1\\}$").matcher(code);
        int methods = 0;
        while (method.find()) {
            methods++;
            long lines = method.group().lines().count();
            Checks.same("at most 60 lines: " + method.group().lines().findFirst().get().trim(), lines <= 60, true);
        }
        Checks.same("methods were found", methods > 100, true);
    }

    /** Rules 2, 3, 5 and 11. */
    private static void looksLikeTheRules(Class<?> one) {
        String name = one.getSimpleName();
        int fields = 0;
        for (Field field : one.getDeclaredFields()) {
            int how = field.getModifiers();
            if (Modifier.isStatic(how)) {
                boolean number = field.getType() == int.class || field.getType() == long.class;
                Checks.same(name + "." + field.getName() + " is a constant", Modifier.isFinal(how) && number, true);
            } else {
                fields++;
            }
        }
        Checks.same("at most twenty fields in " + name, fields <= 20, true);
        Checks.same(name + " has no instance state of another one", one == Editropes.class || Modifier.isStatic(one.getModifiers()), true);
        List<Executable> bodies = new ArrayList<>(List.of(one.getDeclaredConstructors()));
        for (Method method : one.getDeclaredMethods()) {
            bodies.add(method);
            Checks.same(name + "." + method.getName() + " is written, not made", method.isSynthetic(), false);
        }
        for (Executable body : bodies) {
            Checks.same("at most seven parameters of " + body.getName(), body.getParameterCount() <= 7, true);
        }
    }
}
