import java.util.function.Supplier;

/** Counts the answers that are not the ones that are due, and ends the test by that. */
final class Checks {
    private static int wrong = 0;
    private static int asked = 0;

    private Checks() {
    }

    static void same(String what, Object got, Object due) {
        asked++;
        if (!due.equals(got)) {
            wrong++;
            System.out.println(what + " answered " + got + ", due is " + due);
        }
    }

    static void index(String what, Supplier<Object> call) {
        same(what, outcome(call), "throws.IndexOutOfBoundsException");
    }

    static void argument(String what, Supplier<Object> call) {
        same(what, outcome(call), "throws.IllegalArgumentException");
    }

    /** The call is REFUSED, which is counted, and nothing else changes. */
    static void refused(String what, Editropes x, Supplier<Object> call) {
        String before = Given.state(x);
        int told = x.house(4);
        same(what + " is REFUSED", outcome(call), -9);
        same(what + ": REFUSED is counted", x.house(4), told + 1);
        same(what + ": nothing changes", Given.state(x), before);
    }

    static Object outcome(Supplier<Object> call) {
        try {
            return call.get();
        } catch (RuntimeException e) {
            return "throws." + e.getClass().getSimpleName();
        }
    }

    static void end() {
        System.out.println(asked + " answers looked at, " + wrong + " of them wrong");
        if (wrong != 0 || asked == 0) {
            System.exit(1);
        }
    }
}
