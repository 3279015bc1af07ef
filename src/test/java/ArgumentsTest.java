import java.lang.reflect.InvocationTargetException;
import java.lang.reflect.Method;
import java.util.HashMap;
import java.util.Map;

/**
 * Every argument of every call, too small, least, most and too large, together with those of all the others: what
 * the call throws, or that it throws nothing; in empty, in filled and in full objects. What throws changes nothing.
 */
public final class ArgumentsTest {
    private static final int MIN = Integer.MIN_VALUE;
    private static final int MAX = Integer.MAX_VALUE;

    /** Each method with the kinds of its arguments. */
    private static final String[] CALLS = {
        "put rope first many", "putSign rope sign", "putNumber rope any", "putRope rope rope",
        "insert rope place first many", "insertNumber rope place any", "insertSign rope place sign",
        "delete rope place place", "drop rope at", "set rope at sign", "replace rope place place first many",
        "cut rope place", "reverse rope", "copy rope rope", "undo rope", "length rope", "text rope", "sign rope at",
        "part rope place place", "find rope first many place", "findLast rope first many place", "compare rope rope",
        "number rope", "isNumber rope", "history rope", "undoes rope any", "mark rope mark standing",
        "place rope mark", "span rope mark mark", "add script told told first many", "less script less",
        "told script", "ofScript script asked", "fits script rope", "makes script rope", "run script rope",
        "compose script script script", "invert script rope script", "mirror script rope script",
        "swap script neighbour", "join script script script", "between rope rope script", "least rope rope",
        "house house"};

    private final Map<String, Method> methods = new HashMap<>();
    private String name;
    private String[] kinds;
    private Object[] arguments;
    private Editropes kept;

    public static void main(String[] args) {
        ArgumentsTest test = new ArgumentsTest();
        for (int filling = 0; filling < 3; filling++) {
            for (String call : CALLS) {
                test.tryAll(call, filling);
            }
        }
        Checks.end();
    }

    private ArgumentsTest() {
        for (Method method : Editropes.class.getDeclaredMethods()) {
            methods.put(method.getName(), method);
        }
    }

    private static Editropes filled(int filling) {
        if (filling == 0) {
            return new Editropes();
        }
        boolean full = filling == 2;
        Editropes x = full ? Given.ropes(Given.digits(40), "a".repeat(40), "ab".repeat(20)) : Given.ropes("abc", "x", "a-9zz");
        for (int s = 0; s < 4; s++) {
            for (int k = 0; k < (full ? 8 : s); k++) {
                x.add(s, 0, 0, k, 1);
            }
        }
        x.mark(0, 1, 2);
        return x;
    }

    private void tryAll(String call, int filling) {
        String[] words = call.split(" ");
        name = words[0];
        kinds = new String[words.length - 1];
        System.arraycopy(words, 1, kinds, 0, kinds.length);
        arguments = new Object[kinds.length];
        kept = filled(filling);
        long before = kept.digest();
        tryFrom(0, filling);
        Checks.same(name + ": what throws changes nothing", kept.digest(), before);
    }

    private void tryFrom(int argument, int filling) {
        if (argument == arguments.length) {
            tryOnce(filling);
            return;
        }
        int least = least(kinds[argument]);
        int most = most(kinds[argument]);
        for (int value : new int[] {MIN, least - 2, least - 1, least, most, most + 1, most + 2, MAX}) {
            arguments[argument] = value;
            tryFrom(argument + 1, filling);
        }
    }

    private void tryOnce(int filling) {
        String due = due();
        Editropes x = due.isEmpty() ? filled(filling) : kept;
        String thrown = "";
        try {
            methods.get(name).invoke(x, arguments);
        } catch (InvocationTargetException e) {
            thrown = e.getCause().getClass().getSimpleName();
        } catch (IllegalAccessException e) {
            thrown = "not to be called";
        }
        Checks.same(name + java.util.Arrays.toString(arguments) + " of filling " + filling + " throws", thrown, due);
    }

    private String due() {
        boolean index = false;
        boolean argument = name.equals("join") && arguments[0].equals(arguments[1]);
        for (int i = 0; i < kinds.length; i++) {
            int value = (int) arguments[i];
            boolean behindNext = i + 1 < kinds.length && kinds[i].equals(kinds[i + 1]) && value > (int) arguments[i + 1];
            boolean bad = value < least(kinds[i]) || value > most(kinds[i]);
            switch (kinds[i]) {
                case "rope", "script", "mark", "at", "neighbour" -> index |= bad;
                case "place" -> index |= bad || behindNext;
                case "told" -> argument |= bad || behindNext;
                case "any" -> { }
                default -> argument |= bad;
            }
        }
        return index ? "IndexOutOfBoundsException" : argument ? "IllegalArgumentException" : "";
    }

    private static int least(String kind) {
        return kind.equals("standing") ? -1 : kind.equals("less") ? 1 : 0;
    }

    private int most(String kind) {
        switch (kind) {
            case "rope": return 2;
            case "script", "mark", "asked": return 3;
            case "first", "sign": return 36;
            case "many": return 6;
            case "told": return 40;
            case "less": return 8;
            case "house": return 5;
            case "any": return 9;
            case "neighbour": return isThere(0, 3) ? kept.ofScript((int) arguments[0], 0) - 2 : -1;
            case "at": return isThere(0, 2) ? kept.length((int) arguments[0]) - 1 : -1;
            default: return isThere(0, 2) ? kept.length((int) arguments[0]) : 0;
        }
    }

    private boolean isThere(int argument, int most) {
        int value = (int) arguments[argument];
        return value >= 0 && value <= most;
    }
}
