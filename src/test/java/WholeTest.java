import java.math.BigInteger;

/** Promises 45 to 48: house, knock, isSound, digest. */
public final class WholeTest {
    public static void main(String[] args) {
        promise45();
        promise46();
        promise47();
        promise48();
        Checks.end();
    }

    private static Editropes busy() {
        Editropes x = new Editropes();
        x.put(0, 0, 6);
        x.put(1, 24, 6);
        x.put(2, 3, 5);
        x.reverse(2);
        x.mark(0, 0, 2);
        x.mark(2, 3, 5);
        x.mark(2, 2, 0);
        x.add(0, 2, 4, 20, 3);
        x.add(0, 0, 1, 36, 1);
        x.between(0, 1, 1);
        x.between(1, 2, 2);
        x.mirror(0, 0, 3);
        x.run(0, 0);
        x.undo(2);
        x.undo(2);
        x.undo(2);
        x.knock();
        return x;
    }

    private static void promise45() {
        Editropes x = busy();
        Checks.same("SIGNS of all ROPES", x.house(0), 7 + 6);
        int splices = 0;
        for (int s = 0; s < 4; s++) {
            splices += x.ofScript(s, 0);
        }
        Checks.same("SPLICES of all SCRIPTS", x.house(1), splices);
        Checks.same("acts ever done", x.house(2), 3 + 1 + 2 + 2);
        Checks.same("MARKS that are not NONE", x.house(3), 3);
        Checks.same("how often REFUSED was told", x.house(4), 1);
        Checks.same("how often one knocked", x.house(5), 1);
        x.mark(0, 0, -1);
        Checks.same("MARKS without one", x.house(3), 2);
        Checks.argument("house -1", () -> x.house(-1));
        Checks.argument("house 6", () -> x.house(6));
        Checks.argument("house MIN", () -> x.house(Integer.MIN_VALUE));
    }

    private static void promise46() {
        Editropes x = new Editropes();
        Checks.same("knock", x.knock(), 1);
        Checks.same("knock again", x.knock(), 2);
        Checks.same("knocks", x.house(5), 2);
        Checks.same("a knock is no act", x.house(2), 0);
    }

    private static void promise47() {
        Checks.same("a new one is sound", new Editropes().isSound(), true);
        Checks.same("a busy one is sound", busy().isSound(), true);
        Editropes x = busy();
        for (int i = 0; i < 8; i++) {
            x.copy(0, 1);
            x.putRope(1, 1);
            x.invert(0, 0, 3);
            x.compose(0, 3, 2);
            Checks.same("sound in round " + i, x.isSound(), true);
            x.run(2, i % 3);
            x.less(2, 1 + i % 3);
            x.reverse(i % 3);
        }
        Checks.same("isSound tells no REFUSED", busy().house(4), 1);
    }

    private static void promise48() {
        Checks.same("digest of a new one", new Editropes().digest(), digestOf(new Editropes()));
        Checks.same("digest of a busy one", busy().digest(), digestOf(busy()));
        Editropes x = busy();
        Checks.same("digest changes nothing", x.digest(), x.digest());
        for (int i = 0; i < 10; i++) {
            x.set(0, i % x.length(0), i);
            x.reverse(1);
            x.swap(0, 0);
            x.put(2, 9, i % 7);
            Checks.same("digest in round " + i, x.digest(), digestOf(x));
        }
    }

    static long digestOf(Editropes x) {
        return sumOf(x).longValue();
    }

    /** The document's order, told by the other calls of the face, in a number that never wraps around. */
    static BigInteger sumOf(Editropes x) {
        BigInteger[] sum = {BigInteger.valueOf(7809)};
        for (int what = 0; what < 6; what++) {
            take(sum, x.house(what));
        }
        for (int r = 0; r < 3; r++) {
            take(sum, x.text(r));
            take(sum, x.history(r));
            for (int k = 0; k < 10; k++) {
                take(sum, x.undoes(r, k));
            }
            for (int m = 0; m < 4; m++) {
                take(sum, x.place(r, m));
            }
        }
        for (int s = 0; s < 4; s++) {
            take(sum, x.told(s));
            for (int what = 0; what < 4; what++) {
                take(sum, x.ofScript(s, what));
            }
            for (int r = 0; r < 3; r++) {
                take(sum, x.makes(s, r));
            }
        }
        for (int r = 0; r < 3; r++) {
            for (int o = 0; o < 3; o++) {
                take(sum, x.compare(r, o));
                take(sum, x.least(r, o));
            }
        }
        take(sum, x.isSound() ? 1 : 0);
        return sum[0];
    }

    private static void take(BigInteger[] sum, long value) {
        sum[0] = sum[0].multiply(BigInteger.valueOf(31)).add(BigInteger.valueOf(value));
    }

    private static void take(BigInteger[] sum, String text) {
        for (char letter : text.toCharArray()) {
            take(sum, letter);
        }
    }
}
