import java.lang.reflect.InvocationTargetException;
import java.lang.reflect.Method;
import java.util.HashMap;
import java.util.Map;

/** Long runs of all calls, good and bad arguments mixed by a fixed rule, on Editropes and on the Model at once. */
public final class ModelTest {
    private static final int RUNS = 1500;
    private static final int CALLS = 512;

    /** Each method with the kinds of its arguments; how often it stands here is how often it comes. */
    private static final String[] CALL_KINDS = {
        "put r w m", "put r w m", "putSign r s", "putNumber r n", "putRope r r", "insert r p w m", "insert r p w m",
        "insertNumber r p n", "insertSign r p s", "delete r p p", "drop r p", "set r p s", "replace r p p w m",
        "replace r p p w m", "cut r p", "reverse r", "copy r r", "undo r", "undo r", "length r", "text r", "sign r p",
        "part r p p", "find r w m p", "findLast r w m p", "compare r r", "number r", "isNumber r", "history r",
        "undoes r k", "mark r c p", "mark r c p", "place r c", "span r c c", "add t q q w m", "add t q q w m",
        "add t q q w m", "less t l", "told t", "ofScript t o", "fits t r", "makes t r", "run t r", "run t r",
        "compose t t t", "invert t r t", "mirror t r t", "swap t k", "swap t k", "join t t t", "join t t t",
        "between r r t", "between r r t", "least r r", "house h", "knock", "isSound", "digest"};

    private static final int[] NUMBERS = {0, 7, -7, 10, 99, -100, 2147483647, -2147483648, 1000000000, -1999999999};
    private static final int[] FAR = {Integer.MIN_VALUE, Integer.MAX_VALUE, -2, 41, 1000, Integer.MAX_VALUE - 1};

    private long seed = 20261118;
    private final Map<String, Method> ofProgram = methodsOf(Editropes.class);
    private final Map<String, Method> ofModel = methodsOf(Model.class);

    public static void main(String[] args) {
        ModelTest test = new ModelTest();
        for (int run = 0; run < RUNS; run++) {
            test.run(run);
        }
        Checks.end();
    }

    private static Map<String, Method> methodsOf(Class<?> owner) {
        Map<String, Method> methods = new HashMap<>();
        for (Method method : owner.getMethods()) {
            if (method.getDeclaringClass() == owner) {
                methods.put(method.getName(), method);
            }
        }
        return methods;
    }

    private int upTo(int bound) {
        seed = seed * 6364136223846793005L + 1442695040888963407L;
        return (int) ((seed >>> 33) % bound);
    }

    private void run(int run) {
        Editropes program = new Editropes();
        Model model = new Model();
        // Some runs have bad arguments often, some have few signs, so that ropes are like one another.
        int bad = run % 5 == 0 ? 12 : 200;
        int alphabet = run % 3 == 0 ? 37 : 3;
        StringBuilder told = new StringBuilder();
        for (int call = 0; call < CALLS; call++) {
            String[] kinds = CALL_KINDS[upTo(CALL_KINDS.length)].split(" ");
            Object[] arguments = new Object[kinds.length - 1];
            for (int i = 0; i < arguments.length; i++) {
                arguments[i] = argument(kinds[i + 1].charAt(0), model, bad, alphabet);
            }
            putInOrder(kinds, arguments);
            told.setLength(0);
            told.append("run ").append(run).append(", call ").append(call).append(": ").append(kinds[0]);
            told.append(java.util.Arrays.toString(arguments));
            Object due = answer(ofModel.get(kinds[0]), model, arguments);
            Checks.same(told.toString(), answer(ofProgram.get(kinds[0]), program, arguments), due);
            if (call % 8 == 0 || call == CALLS - 1) {
                Checks.same(told + ", digest behind it", program.digest(), model.digest());
            }
        }
    }

    /** Places from and to are mostly told in their order. */
    private void putInOrder(String[] kinds, Object[] arguments) {
        for (int i = 0; i + 1 < arguments.length; i++) {
            boolean both = "pq".contains(kinds[i + 1]) && kinds[i + 1].equals(kinds[i + 2]);
            if (both && (int) arguments[i] > (int) arguments[i + 1] && upTo(20) > 0) {
                Object kept = arguments[i];
                arguments[i] = arguments[i + 1];
                arguments[i + 1] = kept;
            }
        }
    }

    private int argument(char kind, Model model, int bad, int alphabet) {
        if (upTo(bad) == 0) {
            return kind == 'n' ? upTo(100000) : FAR[upTo(FAR.length)];
        }
        int off = upTo(bad) == 0 ? 1 : 0;
        switch (kind) {
            case 'r': return upTo(3 + 2 * off) - off;
            case 't': return upTo(4 + 2 * off) - off;
            case 'c': return upTo(4 + 2 * off) - off;
            case 'w': return alphabet == 3 && upTo(3) > 0 ? upTo(3) : upTo(37 + 2 * off) - off;
            case 's': return alphabet == 3 && upTo(3) > 0 ? upTo(3) : upTo(37 + 2 * off) - off;
            case 'm': return upTo(7 + 2 * off) - off;
            case 'n': return NUMBERS[upTo(NUMBERS.length)];
            case 'p': return upTo(model.length(upTo(3)) + 1 + 2 * off) - off;
            case 'q': return upTo(upTo(3) == 0 ? 41 : 12);
            case 'k': return upTo(12) - 1;
            case 'l': return upTo(4) == 0 ? upTo(10) : 1;
            case 'o': return upTo(4 + 2 * off) - off;
            default: return upTo(6 + 2 * off) - off;
        }
    }

    private static Object answer(Method method, Object on, Object[] arguments) {
        try {
            return method.invoke(on, arguments);
        } catch (InvocationTargetException e) {
            return "throws." + e.getCause().getClass().getSimpleName();
        } catch (IllegalAccessException e) {
            return "not to be called";
        }
    }
}
