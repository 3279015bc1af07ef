import java.lang.management.ManagementFactory;

/** What one run makes stays far below its room of 600,000 objects and 7.3 million elements. */
public final class RoomTest {
    private static final int CALLS = 512;
    private static final com.sun.management.ThreadMXBean THREADS =
        (com.sun.management.ThreadMXBean) ManagementFactory.getThreadMXBean();

    public static void main(String[] args) {
        Editropes x = full();
        callAll(x);
        long before = made();
        callAll(x);
        // What the measure itself makes is in it, too.
        Checks.same("calls that answer numbers make next to nothing", made() - before < 100_000, true);
        x = longScript();
        x.told(0);
        before = made();
        long letters = 0;
        for (int i = 0; i < CALLS; i++) {
            letters += x.told(0).length();
        }
        long bytesOfCall = (made() - before) / CALLS;
        Checks.same("the longest text", letters / CALLS, 8L * 44 + 7);
        // Two bytes a letter in the array, one in the text, two headers each, and some to spare.
        Checks.same("told() makes a text and its letters alone", bytesOfCall < 3 * letters / CALLS + 200, true);
        Checks.end();
    }

    private static long made() {
        return THREADS.getThreadAllocatedBytes(Thread.currentThread().getId());
    }

    private static Editropes full() {
        Editropes x = new Editropes();
        for (int i = 0; i < 6; i++) {
            x.put(0, i, 6);
            x.put(1, 7 * i, 6);
            x.put(2, 30 - i, 6);
        }
        for (int i = 0; i < 4; i++) {
            x.add(0, 2 * i, 2 * i + 1, i, 6);
            x.add(0, 30, 36, 0, 1);
        }
        return x;
    }

    /** Eight splices of 40 signs each. */
    private static Editropes longScript() {
        Editropes x = full();
        x.put(0, 0, 4);
        x.delete(2, 0, x.length(2));
        x.between(2, 0, 0);
        for (int i = 0; i < 3; i++) {
            x.compose(0, 0, 0);
        }
        return x;
    }

    private static void callAll(Editropes x) {
        for (int i = 0; i < CALLS; i++) {
            x.digest();
            x.isSound();
            x.run(0, 0);
            x.undo(0);
            x.mirror(0, 0, 1);
            x.invert(0, 0, 2);
            x.join(0, 1, 3);
            x.between(0, 1, 3);
            x.copy(1, 2);
            x.reverse(2);
            x.find(0, 0, 3, 1);
            x.number(0);
        }
    }
}
