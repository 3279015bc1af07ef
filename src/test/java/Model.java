import java.util.ArrayList;
import java.util.List;

/**
 * The document once more, in Strings and lists and without any thrift, to be held against Editropes.
 * isSound() is true here at all times: what it asks for follows from the words of the document.
 */
public final class Model {
    private static final String SIGNS = "abcdefghijklmnopqrstuvwxyz0123456789-";
    private static final int MOST = 40;

    private record Splice(int from, int to, String text) {
        int growth() {
            return text.length() - to + from;
        }

        String done(String on) {
            return on.substring(0, from) + text + on.substring(to);
        }

        Splice undone(String on) {
            return new Splice(from, from + text.length(), on.substring(from, to));
        }

        Splice moved(int by) {
            return new Splice(from + by, to + by, text);
        }

        boolean aheadOf(Splice other) {
            return to < other.from;
        }

        String told() {
            return from + "-" + to + ":" + text;
        }
    }

    private static final class Rope {
        String text = "";
        /** null stands for a turn. */
        final List<Splice> history = new ArrayList<>();
        final int[] marks = {-1, -1, -1, -1};
    }

    private final Rope[] ropes = {new Rope(), new Rope(), new Rope()};
    private final List<List<Splice>> scripts = new ArrayList<>();
    private int acts;
    private int refused;
    private int knocks;

    public Model() {
        for (int s = 0; s < 4; s++) {
            scripts.add(new ArrayList<>());
        }
    }

    private Rope r(int rope) {
        index(rope >= 0 && rope <= 2);
        return ropes[rope];
    }

    private List<Splice> s(int script) {
        index(script >= 0 && script <= 3);
        return scripts.get(script);
    }

    private static void index(boolean there) {
        if (!there) {
            throw new IndexOutOfBoundsException();
        }
    }

    private static void argument(boolean good) {
        if (!good) {
            throw new IllegalArgumentException();
        }
    }

    private static String word(int first, int many) {
        argument(first >= 0 && first <= 36 && many >= 0 && many <= 6);
        return (SIGNS + SIGNS).substring(first, first + many);
    }

    private static String one(int sign) {
        argument(sign >= 0 && sign <= 36);
        return SIGNS.substring(sign, sign + 1);
    }

    private static void place(Rope rope, int at) {
        index(at >= 0 && at <= rope.text.length());
    }

    private static void stretch(Rope rope, int from, int to) {
        index(from >= 0 && from <= to && to <= rope.text.length());
    }

    private static void hasSign(Rope rope, int at) {
        index(at >= 0 && at < rope.text.length());
    }

    private static String turned(String text) {
        return new StringBuilder(text).reverse().toString();
    }

    private int refuse() {
        refused++;
        return -9;
    }

    private static void keep(Rope rope, Splice undoing) {
        rope.history.add(undoing);
        if (rope.history.size() > 10) {
            rope.history.remove(0);
        }
    }

    private void change(Rope rope, Splice splice) {
        for (int m = 0; m < 4; m++) {
            int p = rope.marks[m];
            if (p > splice.from) {
                rope.marks[m] = p >= splice.to ? p + splice.growth() : splice.from;
            }
        }
        rope.text = splice.done(rope.text);
        acts++;
    }

    private void turn(Rope rope) {
        for (int m = 0; m < 4; m++) {
            rope.marks[m] = rope.marks[m] == -1 ? -1 : rope.text.length() - rope.marks[m];
        }
        rope.text = turned(rope.text);
        acts++;
    }

    private void act(Rope rope, Splice splice) {
        keep(rope, splice.undone(rope.text));
        change(rope, splice);
    }

    private int splice(Rope rope, int from, int to, String text) {
        Splice splice = new Splice(from, to, text);
        if (rope.text.length() + splice.growth() > MOST) {
            return refuse();
        }
        act(rope, splice);
        return rope.text.length();
    }

    private int end(Rope rope, String text) {
        return splice(rope, rope.text.length(), rope.text.length(), text);
    }

    public int put(int rope, int first, int many) {
        return end(r(rope), word(first, many));
    }

    public int putSign(int rope, int sign) {
        return end(r(rope), one(sign));
    }

    public int putNumber(int rope, int number) {
        return end(r(rope), "" + number);
    }

    public int putRope(int rope, int other) {
        return end(r(rope), r(other).text);
    }

    public int insert(int rope, int at, int first, int many) {
        place(r(rope), at);
        return splice(r(rope), at, at, word(first, many));
    }

    public int insertNumber(int rope, int at, int number) {
        place(r(rope), at);
        return splice(r(rope), at, at, "" + number);
    }

    public int insertSign(int rope, int at, int sign) {
        place(r(rope), at);
        return splice(r(rope), at, at, one(sign));
    }

    public int delete(int rope, int from, int to) {
        stretch(r(rope), from, to);
        return splice(r(rope), from, to, "");
    }

    public int drop(int rope, int at) {
        hasSign(r(rope), at);
        int was = sign(rope, at);
        splice(r(rope), at, at + 1, "");
        return was;
    }

    public int set(int rope, int at, int sign) {
        hasSign(r(rope), at);
        int was = sign(rope, at);
        splice(r(rope), at, at + 1, one(sign));
        return was;
    }

    public int replace(int rope, int from, int to, int first, int many) {
        stretch(r(rope), from, to);
        return splice(r(rope), from, to, word(first, many));
    }

    public int cut(int rope, int length) {
        place(r(rope), length);
        int before = r(rope).text.length();
        return before - splice(r(rope), length, before, "");
    }

    public int reverse(int rope) {
        keep(r(rope), null);
        turn(r(rope));
        return r(rope).text.length();
    }

    public int copy(int rope, int into) {
        String text = r(rope).text;
        return splice(r(into), 0, r(into).text.length(), text);
    }

    public int undo(int rope) {
        Rope changed = r(rope);
        int last = changed.history.size() - 1;
        if (last < 0) {
            return refuse();
        }
        Splice undoing = changed.history.get(last);
        if (undoing != null && changed.text.length() + undoing.growth() > MOST) {
            return refuse();
        }
        if (undoing == null) {
            turn(changed);
        } else {
            change(changed, undoing);
        }
        changed.history.remove(last);
        return last;
    }

    public int length(int rope) {
        return r(rope).text.length();
    }

    public String text(int rope) {
        return r(rope).text;
    }

    public int sign(int rope, int at) {
        hasSign(r(rope), at);
        return SIGNS.indexOf(r(rope).text.charAt(at));
    }

    public String part(int rope, int from, int to) {
        stretch(r(rope), from, to);
        return r(rope).text.substring(from, to);
    }

    public int find(int rope, int first, int many, int from) {
        place(r(rope), from);
        return r(rope).text.indexOf(word(first, many), from);
    }

    public int findLast(int rope, int first, int many, int from) {
        place(r(rope), from);
        return r(rope).text.lastIndexOf(word(first, many), from);
    }

    public int compare(int rope, int other) {
        return Integer.signum(r(rope).text.compareTo(r(other).text));
    }

    public int number(int rope) {
        return isNumber(rope) ? new java.math.BigInteger(r(rope).text).intValue() : 0;
    }

    public boolean isNumber(int rope) {
        return r(rope).text.matches("-?[0-9]+") && new java.math.BigInteger(r(rope).text).bitLength() < 32;
    }

    public int history(int rope) {
        return r(rope).history.size();
    }

    public String undoes(int rope, int k) {
        List<Splice> history = r(rope).history;
        if (k < 0 || k >= history.size()) {
            return "-";
        }
        Splice undoing = history.get(history.size() - 1 - k);
        return undoing == null ? "turn" : undoing.told();
    }

    public int mark(int rope, int mark, int place) {
        int was = place(rope, mark);
        argument(place >= -1 && place <= r(rope).text.length());
        r(rope).marks[mark] = place;
        return was;
    }

    public int place(int rope, int mark) {
        Rope asked = r(rope);
        index(mark >= 0 && mark <= 3);
        return asked.marks[mark];
    }

    public String span(int rope, int mark, int other) {
        int a = place(rope, mark);
        int b = place(rope, other);
        return a == -1 || b == -1 ? "" : r(rope).text.substring(Math.min(a, b), Math.max(a, b));
    }

    public int add(int script, int from, int to, int first, int many) {
        s(script);
        argument(0 <= from && from <= 40 && 0 <= to && to <= 40 && from <= to);
        String word = word(first, many);
        if (s(script).size() == 8) {
            return refuse();
        }
        s(script).add(new Splice(from, to, word));
        return s(script).size();
    }

    public int less(int script, int many) {
        List<Splice> changed = s(script);
        argument(many >= 1 && many <= 8);
        for (int i = 0; i < many && !changed.isEmpty(); i++) {
            changed.remove(changed.size() - 1);
        }
        return changed.size();
    }

    public String told(int script) {
        return String.join(" ", s(script).stream().map(Splice::told).toList());
    }

    public int ofScript(int script, int what) {
        List<Splice> asked = s(script);
        argument(what >= 0 && what <= 3);
        int go = asked.stream().mapToInt(x -> x.to - x.from).sum();
        int come = asked.stream().mapToInt(x -> x.text.length()).sum();
        return new int[] {asked.size(), come - go, go, come}[what];
    }

    /** What a script makes of a text; null if it does not fit. */
    private static String made(List<Splice> script, String text) {
        String now = text;
        for (Splice splice : script) {
            if (splice.to > now.length()) {
                return null;
            }
            now = splice.done(now);
        }
        return now.length() > MOST ? null : now;
    }

    public boolean fits(int script, int rope) {
        return made(s(script), r(rope).text) != null;
    }

    public String makes(int script, int rope) {
        String made = made(s(script), r(rope).text);
        return made == null ? "!" : made;
    }

    public int run(int script, int rope) {
        if (!fits(script, rope)) {
            return refuse();
        }
        for (Splice splice : s(script)) {
            act(r(rope), splice);
        }
        return r(rope).text.length();
    }

    private int becomes(int into, List<Splice> splices) {
        if (splices == null || splices.size() > 8) {
            return refuse();
        }
        scripts.set(into, splices);
        return splices.size();
    }

    public int compose(int script, int other, int into) {
        s(into);
        List<Splice> composed = new ArrayList<>(s(script));
        composed.addAll(s(other));
        return becomes(into, composed);
    }

    public int invert(int script, int rope, int into) {
        s(into);
        if (!fits(script, rope)) {
            return refuse();
        }
        List<Splice> inverse = new ArrayList<>();
        String now = r(rope).text;
        for (Splice splice : s(script)) {
            inverse.add(0, splice.undone(now));
            now = splice.done(now);
        }
        return becomes(into, inverse);
    }

    public int mirror(int script, int rope, int into) {
        s(into);
        if (!fits(script, rope)) {
            return refuse();
        }
        List<Splice> mirror = new ArrayList<>();
        String now = r(rope).text;
        for (Splice splice : s(script)) {
            mirror.add(new Splice(now.length() - splice.to, now.length() - splice.from, turned(splice.text)));
            now = splice.done(now);
        }
        return becomes(into, mirror);
    }

    public int swap(int script, int k) {
        List<Splice> changed = s(script);
        index(k >= 0 && k < changed.size() && k < changed.size() - 1);
        Splice x = changed.get(k);
        Splice y = changed.get(k + 1);
        if (y.to < x.from) {
            changed.set(k, y);
            changed.set(k + 1, x.moved(y.growth()));
        } else if (y.from > x.from + x.text.length()) {
            changed.set(k, y.moved(-x.growth()));
            changed.set(k + 1, x);
        } else {
            return refuse();
        }
        return 1;
    }

    public int join(int script, int other, int into) {
        List<Splice> a = new ArrayList<>(s(script));
        List<Splice> joined = new ArrayList<>(a);
        s(other);
        s(into);
        argument(script != other);
        for (Splice told : s(other)) {
            Splice b = told;
            for (int k = 0; k < a.size(); k++) {
                Splice by = a.get(k);
                if (!by.aheadOf(b) && !b.aheadOf(by)) {
                    return refuse();
                }
                a.set(k, b.aheadOf(by) ? by.moved(b.growth()) : by);
                b = by.aheadOf(b) ? b.moved(by.growth()) : b;
            }
            joined.add(b);
        }
        return becomes(into, joined);
    }

    public int between(int rope, int other, int into) {
        String x = r(rope).text;
        String y = r(other).text;
        s(into);
        List<Splice> script = new ArrayList<>();
        int done = 0;
        while (!x.isEmpty() || !y.isEmpty()) {
            int gone = 0;
            StringBuilder come = new StringBuilder();
            while ((!x.isEmpty() || !y.isEmpty()) && (x.isEmpty() || y.isEmpty() || x.charAt(0) != y.charAt(0))) {
                if (y.isEmpty() || !x.isEmpty() && least(x.substring(1), y) <= least(x, y.substring(1))) {
                    x = x.substring(1);
                    gone++;
                } else {
                    come.append(y.charAt(0));
                    y = y.substring(1);
                }
            }
            if (gone > 0 || come.length() > 0) {
                script.add(new Splice(done, done + gone, come.toString()));
                done += come.length();
            } else {
                x = x.substring(1);
                y = y.substring(1);
                done++;
            }
        }
        return becomes(into, script);
    }

    /** By the longest row of signs that both have in common, from the begins on. */
    private static int least(String x, String y) {
        int[] common = new int[y.length() + 1];
        for (int i = 1; i <= x.length(); i++) {
            int diagonal = 0;
            for (int j = 1; j <= y.length(); j++) {
                int above = common[j];
                common[j] = x.charAt(i - 1) == y.charAt(j - 1) ? diagonal + 1 : Math.max(above, common[j - 1]);
                diagonal = above;
            }
        }
        return x.length() + y.length() - 2 * common[y.length()];
    }

    public int least(int rope, int other) {
        return least(r(rope).text, r(other).text);
    }

    public int house(int what) {
        argument(what >= 0 && what <= 5);
        int signs = 0;
        int marks = 0;
        for (Rope rope : ropes) {
            signs += rope.text.length();
            for (int p : rope.marks) {
                marks += p == -1 ? 0 : 1;
            }
        }
        int splices = scripts.stream().mapToInt(List::size).sum();
        return new int[] {signs, splices, acts, marks, refused, knocks}[what];
    }

    public int knock() {
        return ++knocks;
    }

    public boolean isSound() {
        return true;
    }

    public long digest() {
        long[] sum = {7809};
        for (int what = 0; what < 6; what++) {
            take(sum, house(what));
        }
        for (int r = 0; r < 3; r++) {
            take(sum, text(r));
            take(sum, history(r));
            for (int k = 0; k < 10; k++) {
                take(sum, undoes(r, k));
            }
            for (int m = 0; m < 4; m++) {
                take(sum, place(r, m));
            }
        }
        for (int s = 0; s < 4; s++) {
            take(sum, told(s));
            for (int what = 0; what < 4; what++) {
                take(sum, ofScript(s, what));
            }
            for (int r = 0; r < 3; r++) {
                take(sum, makes(s, r));
            }
        }
        for (int r = 0; r < 3; r++) {
            for (int o = 0; o < 3; o++) {
                take(sum, compare(r, o));
                take(sum, least(r, o));
            }
        }
        take(sum, 1);
        return sum[0];
    }

    private static void take(long[] sum, long value) {
        sum[0] = sum[0] * 31 + value;
    }

    private static void take(long[] sum, String text) {
        text.chars().forEach(code -> take(sum, code));
    }
}
