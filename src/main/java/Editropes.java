/** Ropes of signs, marks on them, and scripts of splices: ../shared/DOC.md says what each call answers. */
public final class Editropes {
    private static final int NONE = -1;
    private static final int REFUSED = -9;

    private static final int ROPES = 3;
    private static final int SCRIPTS = 4;
    private static final int MARKS = 4;
    private static final int MOST_SIGNS = 40;
    private static final int MOST_SPLICES = 8;
    private static final int MOST_KEPT = 10;
    private static final int LONGEST_WORD = 6;

    private static final int SIGNS = 37;
    private static final int FIRST_DIGIT = 26;
    private static final int DASH = 36;

    private static final int HOUSE_NUMBERS = 6;
    private static final int SCRIPT_NUMBERS = 4;
    private static final long FIRST_SUM = 7809;

    // Only the end of a script is bound to 40 signs: each of its splices may bring 40 more before.
    private static final int MOST_BETWEEN_SPLICES = MOST_SIGNS + MOST_SPLICES * MOST_SIGNS;
    // Eight splices of 40 signs and two numbers of eleven signs each.
    private static final int LONGEST_LINE = 600;
    // That of the first digit of the longest int.
    private static final long GREATEST_UNIT = 1_000_000_000L;
    // Above what an int can be, and far from where a long wraps around.
    private static final long NO_NUMBER = 10_000_000_000L;

    private final Rope[] ropes;
    private final Script[] scripts;
    private int acts;
    private int refusals;
    private int knocks;

    // All that a call needs for a while is made once, as nothing that a run makes is ever given back.
    private final Splice deed;
    private final Row sought;
    private final Script draft;
    private final Script carrier;
    private final Row before;
    private final Row made;
    private final Row again;
    private final Lattice lattice;
    private final int[] leasts;
    private final Line line;

    public Editropes() {
        ropes = new Rope[ROPES];
        for (int r = 0; r < ropes.length; r++) {
            ropes[r] = new Rope();
        }
        scripts = new Script[SCRIPTS];
        for (int s = 0; s < scripts.length; s++) {
            scripts[s] = new Script();
        }
        deed = new Splice();
        sought = new Row(LONGEST_WORD);
        draft = new Script();
        carrier = new Script();
        before = new Row(MOST_BETWEEN_SPLICES);
        made = new Row(MOST_BETWEEN_SPLICES);
        again = new Row(MOST_BETWEEN_SPLICES);
        lattice = new Lattice();
        leasts = new int[ROPES * ROPES];
        line = new Line();
    }

    // ---- ropes

    public int put(int rope, int first, int many) throws IndexOutOfBoundsException, IllegalArgumentException {
        Rope changed = ropeOf(rope);
        needWord(first, many);
        deed.begin(changed.row.size, changed.row.size);
        deed.text.pushWord(first, many);
        return actOn(changed);
    }

    public int putSign(int rope, int sign) throws IndexOutOfBoundsException, IllegalArgumentException {
        Rope changed = ropeOf(rope);
        needSign(sign);
        deed.begin(changed.row.size, changed.row.size);
        deed.text.push(sign);
        return actOn(changed);
    }

    public int putNumber(int rope, int number) throws IndexOutOfBoundsException {
        Rope changed = ropeOf(rope);
        deed.begin(changed.row.size, changed.row.size);
        deed.text.pushNumber(number);
        return actOn(changed);
    }

    public int putRope(int rope, int other) throws IndexOutOfBoundsException {
        Rope changed = ropeOf(rope);
        Rope taken = ropeOf(other);
        deed.begin(changed.row.size, changed.row.size);
        deed.text.become(taken.row);
        return actOn(changed);
    }

    public int insert(int rope, int at, int first, int many) throws IndexOutOfBoundsException, IllegalArgumentException {
        Rope changed = ropeOf(rope);
        needPlace(changed, at);
        needWord(first, many);
        deed.begin(at, at);
        deed.text.pushWord(first, many);
        return actOn(changed);
    }

    public int insertNumber(int rope, int at, int number) throws IndexOutOfBoundsException {
        Rope changed = ropeOf(rope);
        needPlace(changed, at);
        deed.begin(at, at);
        deed.text.pushNumber(number);
        return actOn(changed);
    }

    public int insertSign(int rope, int at, int sign) throws IndexOutOfBoundsException, IllegalArgumentException {
        Rope changed = ropeOf(rope);
        needPlace(changed, at);
        needSign(sign);
        deed.begin(at, at);
        deed.text.push(sign);
        return actOn(changed);
    }

    public int delete(int rope, int from, int to) throws IndexOutOfBoundsException {
        Rope changed = ropeOf(rope);
        needStretch(changed, from, to);
        deed.begin(from, to);
        return actOn(changed);
    }

    public int drop(int rope, int at) throws IndexOutOfBoundsException {
        Rope changed = ropeOf(rope);
        needSignAt(changed, at);
        int gone = changed.row.at(at);
        deed.begin(at, at + 1);
        actOn(changed);
        return gone;
    }

    public int set(int rope, int at, int sign) throws IndexOutOfBoundsException, IllegalArgumentException {
        Rope changed = ropeOf(rope);
        needSignAt(changed, at);
        needSign(sign);
        int gone = changed.row.at(at);
        deed.begin(at, at + 1);
        deed.text.push(sign);
        actOn(changed);
        return gone;
    }

    public int replace(int rope, int from, int to, int first, int many) throws IndexOutOfBoundsException, IllegalArgumentException {
        Rope changed = ropeOf(rope);
        needStretch(changed, from, to);
        needWord(first, many);
        deed.begin(from, to);
        deed.text.pushWord(first, many);
        return actOn(changed);
    }

    public int cut(int rope, int length) throws IndexOutOfBoundsException {
        Rope changed = ropeOf(rope);
        needPlace(changed, length);
        int gone = changed.row.size - length;
        deed.begin(length, changed.row.size);
        actOn(changed);
        return gone;
    }

    public int reverse(int rope) throws IndexOutOfBoundsException {
        Rope changed = ropeOf(rope);
        changed.past.keepTurn();
        changed.turn();
        acts++;
        return changed.row.size;
    }

    public int copy(int rope, int into) throws IndexOutOfBoundsException {
        Rope taken = ropeOf(rope);
        Rope changed = ropeOf(into);
        deed.begin(0, changed.row.size);
        deed.text.become(taken.row);
        return actOn(changed);
    }

    public int undo(int rope) throws IndexOutOfBoundsException {
        Rope changed = ropeOf(rope);
        if (!changed.canGoBack()) {
            return refusal();
        }
        changed.goBack();
        acts++;
        return changed.past.size;
    }

    // ---- what is asked of ropes

    public int length(int rope) throws IndexOutOfBoundsException {
        return ropeOf(rope).row.size;
    }

    public String text(int rope) throws IndexOutOfBoundsException {
        Rope asked = ropeOf(rope);
        line.clear();
        line.writeRow(asked.row);
        return line.whole();
    }

    public int sign(int rope, int at) throws IndexOutOfBoundsException {
        Rope asked = ropeOf(rope);
        needSignAt(asked, at);
        return asked.row.at(at);
    }

    public String part(int rope, int from, int to) throws IndexOutOfBoundsException {
        Rope asked = ropeOf(rope);
        needStretch(asked, from, to);
        line.clear();
        line.writeStretch(asked.row, from, to);
        return line.whole();
    }

    public int find(int rope, int first, int many, int from) throws IndexOutOfBoundsException, IllegalArgumentException {
        Row asked = rowWithWordToFind(rope, first, many, from);
        for (int at = from; at <= asked.size - many; at++) {
            if (asked.hasAt(at, sought)) {
                return at;
            }
        }
        return NONE;
    }

    public int findLast(int rope, int first, int many, int from) throws IndexOutOfBoundsException, IllegalArgumentException {
        Row asked = rowWithWordToFind(rope, first, many, from);
        for (int at = Math.min(from, asked.size - many); at >= 0; at--) {
            if (asked.hasAt(at, sought)) {
                return at;
            }
        }
        return NONE;
    }

    public int compare(int rope, int other) throws IndexOutOfBoundsException {
        Rope one = ropeOf(rope);
        Rope two = ropeOf(other);
        return one.row.orderTo(two.row);
    }

    public int number(int rope) throws IndexOutOfBoundsException {
        long value = ropeOf(rope).row.asNumber();
        return value == NO_NUMBER ? 0 : (int) value;
    }

    public boolean isNumber(int rope) throws IndexOutOfBoundsException {
        return ropeOf(rope).row.asNumber() != NO_NUMBER;
    }

    public int history(int rope) throws IndexOutOfBoundsException {
        return ropeOf(rope).past.size;
    }

    public String undoes(int rope, int k) throws IndexOutOfBoundsException {
        Rope asked = ropeOf(rope);
        writeUndoing(asked.past, k);
        return line.whole();
    }

    // ---- marks

    public int mark(int rope, int mark, int place) throws IndexOutOfBoundsException, IllegalArgumentException {
        Rope changed = ropeOf(rope);
        needMark(mark);
        if (place < NONE || place > changed.row.size) {
            throw new IllegalArgumentException();
        }
        int old = changed.markAt(mark);
        changed.moveMark(mark, place);
        return old;
    }

    public int place(int rope, int mark) throws IndexOutOfBoundsException {
        Rope asked = ropeOf(rope);
        needMark(mark);
        return asked.markAt(mark);
    }

    public String span(int rope, int mark, int other) throws IndexOutOfBoundsException {
        Rope asked = ropeOf(rope);
        needMark(mark);
        needMark(other);
        int one = asked.markAt(mark);
        int two = asked.markAt(other);
        line.clear();
        if (one != NONE && two != NONE) {
            line.writeStretch(asked.row, Math.min(one, two), Math.max(one, two));
        }
        return line.whole();
    }

    // ---- scripts

    public int add(int script, int from, int to, int first, int many) throws IndexOutOfBoundsException, IllegalArgumentException {
        Script changed = scriptOf(script);
        if (from < 0 || to > MOST_SIGNS || to < from) {
            throw new IllegalArgumentException();
        }
        needWord(first, many);
        if (changed.isFull()) {
            return refusal();
        }
        Splice added = changed.next();
        added.begin(from, to);
        added.text.pushWord(first, many);
        return changed.size;
    }

    public int less(int script, int many) throws IndexOutOfBoundsException, IllegalArgumentException {
        Script changed = scriptOf(script);
        if (many < 1 || many > MOST_SPLICES) {
            throw new IllegalArgumentException();
        }
        changed.size = Math.max(0, changed.size - many);
        return changed.size;
    }

    public String told(int script) throws IndexOutOfBoundsException {
        Script asked = scriptOf(script);
        line.clear();
        line.writeScript(asked);
        return line.whole();
    }

    public int ofScript(int script, int what) throws IndexOutOfBoundsException, IllegalArgumentException {
        Script asked = scriptOf(script);
        if (what < 0 || what >= SCRIPT_NUMBERS) {
            throw new IllegalArgumentException();
        }
        return numberOfScript(asked, what);
    }

    public boolean fits(int script, int rope) throws IndexOutOfBoundsException {
        Script asked = scriptOf(script);
        Rope on = ropeOf(rope);
        return asked.suits(on.row);
    }

    public String makes(int script, int rope) throws IndexOutOfBoundsException {
        Script asked = scriptOf(script);
        Rope on = ropeOf(rope);
        writeMade(asked, on);
        return line.whole();
    }

    public int run(int script, int rope) throws IndexOutOfBoundsException {
        Script done = scriptOf(script);
        Rope changed = ropeOf(rope);
        if (!done.suits(changed.row)) {
            return refusal();
        }
        for (int k = 0; k < done.size; k++) {
            changed.act(done.at(k));
            acts++;
        }
        return changed.row.size;
    }

    public int compose(int script, int other, int into) throws IndexOutOfBoundsException {
        Script one = scriptOf(script);
        Script two = scriptOf(other);
        Script changed = scriptOf(into);
        if (one.size + two.size > MOST_SPLICES) {
            return refusal();
        }
        draft.become(one);
        for (int k = 0; k < two.size; k++) {
            draft.next().become(two.at(k));
        }
        changed.become(draft);
        return changed.size;
    }

    public int invert(int script, int rope, int into) throws IndexOutOfBoundsException {
        Script one = scriptOf(script);
        Rope on = ropeOf(rope);
        Script changed = scriptOf(into);
        if (!one.suits(on.row)) {
            return refusal();
        }
        draftInverse(one, on.row);
        changed.become(draft);
        return changed.size;
    }

    public int mirror(int script, int rope, int into) throws IndexOutOfBoundsException {
        Script one = scriptOf(script);
        Rope on = ropeOf(rope);
        Script changed = scriptOf(into);
        if (!one.suits(on.row)) {
            return refusal();
        }
        draftMirror(one, on.row);
        changed.become(draft);
        return changed.size;
    }

    public int swap(int script, int k) throws IndexOutOfBoundsException {
        Script changed = scriptOf(script);
        if (k < 0 || k >= changed.size - 1) {
            throw new IndexOutOfBoundsException();
        }
        Splice first = changed.at(k);
        Splice second = changed.at(k + 1);
        if (second.to < first.from) {
            first.moveBy(second.growth());
        } else if (second.from > first.from + first.text.size) {
            second.moveBy(-first.growth());
        } else {
            return refusal();
        }
        changed.exchange(k, k + 1);
        return 1;
    }

    public int join(int script, int other, int into) throws IndexOutOfBoundsException, IllegalArgumentException {
        Script one = scriptOf(script);
        Script two = scriptOf(other);
        Script changed = scriptOf(into);
        if (script == other) {
            throw new IllegalArgumentException();
        }
        if (one.size + two.size > MOST_SPLICES || !draftJoin(one, two)) {
            return refusal();
        }
        changed.become(draft);
        return changed.size;
    }

    public int between(int rope, int other, int into) throws IndexOutOfBoundsException {
        Rope one = ropeOf(rope);
        Rope two = ropeOf(other);
        Script changed = scriptOf(into);
        lattice.fill(one.row, two.row);
        if (!draftBetween(one.row, two.row)) {
            return refusal();
        }
        changed.become(draft);
        return changed.size;
    }

    public int least(int rope, int other) throws IndexOutOfBoundsException {
        Rope one = ropeOf(rope);
        Rope two = ropeOf(other);
        lattice.fill(one.row, two.row);
        return lattice.at(0, 0);
    }

    // ---- the whole

    public int house(int what) throws IllegalArgumentException {
        switch (what) {
            case 0: return signsOfAllRopes();
            case 1: return splicesOfAllScripts();
            case 2: return acts;
            case 3: return marksThatStand();
            case 4: return refusals;
            case 5: return knocks;
            default: throw new IllegalArgumentException();
        }
    }

    public int knock() {
        knocks++;
        return knocks;
    }

    public boolean isSound() {
        return areScriptsSound() && areTurnsSound() && arePairsSound() && areLeastsSound() && areMarksSound();
    }

    public long digest() {
        long sum = FIRST_SUM;
        for (int what = 0; what < HOUSE_NUMBERS; what++) {
            sum = mixed(sum, house(what));
        }
        for (int r = 0; r < ropes.length; r++) {
            sum = mixedRope(sum, ropes[r]);
        }
        for (int s = 0; s < scripts.length; s++) {
            sum = mixedScript(sum, scripts[s]);
        }
        for (int r = 0; r < ropes.length; r++) {
            for (int o = 0; o < ropes.length; o++) {
                sum = mixed(sum, compare(r, o));
                sum = mixed(sum, least(r, o));
            }
        }
        return mixed(sum, isSound() ? 1 : 0);
    }

    // ---- what the calls need of their arguments

    private Rope ropeOf(int rope) {
        if (rope < 0 || rope >= ropes.length) {
            throw new IndexOutOfBoundsException();
        }
        return ropes[rope];
    }

    private Script scriptOf(int script) {
        if (script < 0 || script >= scripts.length) {
            throw new IndexOutOfBoundsException();
        }
        return scripts[script];
    }

    private static void needMark(int mark) {
        if (mark < 0 || mark >= MARKS) {
            throw new IndexOutOfBoundsException();
        }
    }

    private static void needPlace(Rope rope, int place) {
        if (place < 0 || place > rope.row.size) {
            throw new IndexOutOfBoundsException();
        }
    }

    private static void needStretch(Rope rope, int from, int to) {
        needPlace(rope, from);
        needPlace(rope, to);
        if (to < from) {
            throw new IndexOutOfBoundsException();
        }
    }

    private static void needSignAt(Rope rope, int at) {
        if (at < 0 || at >= rope.row.size) {
            throw new IndexOutOfBoundsException();
        }
    }

    private static void needSign(int sign) {
        if (sign < 0 || sign >= SIGNS) {
            throw new IllegalArgumentException();
        }
    }

    private static void needWord(int first, int many) {
        needSign(first);
        if (many < 0 || many > LONGEST_WORD) {
            throw new IllegalArgumentException();
        }
    }

    private Row rowWithWordToFind(int rope, int first, int many, int from) {
        Rope asked = ropeOf(rope);
        needPlace(asked, from);
        needWord(first, many);
        sought.size = 0;
        sought.pushWord(first, many);
        return asked.row;
    }

    // ---- how acts are done

    private int refusal() {
        refusals++;
        return REFUSED;
    }

    private int actOn(Rope rope) {
        if (rope.row.size + deed.growth() > MOST_SIGNS) {
            return refusal();
        }
        rope.act(deed);
        acts++;
        return rope.row.size;
    }

    // ---- how scripts are drafted

    private void draftInverse(Script script, Row on) {
        draft.size = script.size;
        before.become(on);
        for (int k = 0; k < script.size; k++) {
            draft.at(script.size - 1 - k).becomeUndoing(script.at(k), before);
            before.change(script.at(k));
        }
    }

    private void draftMirror(Script script, Row on) {
        draft.size = 0;
        int signs = on.size;
        for (int k = 0; k < script.size; k++) {
            Splice splice = script.at(k);
            Splice mirrored = draft.next();
            mirrored.begin(signs - splice.to, signs - splice.from);
            mirrored.text.become(splice.text);
            mirrored.text.turn();
            signs += splice.growth();
        }
    }

    private boolean draftJoin(Script one, Script two) {
        draft.become(one);
        carrier.become(one);
        for (int k = 0; k < two.size; k++) {
            Splice carried = draft.next();
            carried.become(two.at(k));
            if (!carry(carried)) {
                return false;
            }
        }
        return true;
    }

    private boolean carry(Splice carried) {
        for (int k = 0; k < carrier.size; k++) {
            Splice by = carrier.at(k);
            if (by.to < carried.from) {
                carried.moveBy(by.growth());
            } else if (carried.to < by.from) {
                by.moveBy(carried.growth());
            } else {
                return false;
            }
        }
        return true;
    }

    /** Needs the lattice of both rows; tells whether the draft has room for all splices. */
    private boolean draftBetween(Row one, Row two) {
        draft.size = 0;
        Splice open = null;
        int i = 0;
        int j = 0;
        while (i + j < one.size + two.size) {
            if (i < one.size && j < two.size && one.at(i) == two.at(j)) {
                open = null;
                i++;
                j++;
                continue;
            }
            if (open == null) {
                if (draft.isFull()) {
                    return false;
                }
                open = draft.next();
                // All ahead of j already is as the other rope has it, so j is the place in what was made.
                open.begin(j, j);
            }
            if (j == two.size || i < one.size && lattice.at(i + 1, j) <= lattice.at(i, j + 1)) {
                open.to++;
                i++;
            } else {
                open.text.push(two.at(j));
                j++;
            }
        }
        return true;
    }

    // ---- what is counted

    private int signsOfAllRopes() {
        int signs = 0;
        for (int r = 0; r < ropes.length; r++) {
            signs += ropes[r].row.size;
        }
        return signs;
    }

    private int splicesOfAllScripts() {
        int splices = 0;
        for (int s = 0; s < scripts.length; s++) {
            splices += scripts[s].size;
        }
        return splices;
    }

    private int marksThatStand() {
        int standing = 0;
        for (int r = 0; r < ropes.length; r++) {
            for (int m = 0; m < MARKS; m++) {
                if (ropes[r].markAt(m) != NONE) {
                    standing++;
                }
            }
        }
        return standing;
    }

    private static int numberOfScript(Script script, int what) {
        switch (what) {
            case 0: return script.size;
            case 1: return script.coming() - script.going();
            case 2: return script.going();
            default: return script.coming();
        }
    }

    // ---- what is written

    private void writeUndoing(Past past, int k) {
        line.clear();
        if (k < 0 || k >= past.size) {
            line.write('-');
        } else if (past.back(k).isTurn) {
            line.write('t');
            line.write('u');
            line.write('r');
            line.write('n');
        } else {
            line.writeSplice(past.back(k).splice);
        }
    }

    private void writeMade(Script script, Rope rope) {
        line.clear();
        if (script.suits(rope.row)) {
            made.become(rope.row);
            script.changeAll(made);
            line.writeRow(made);
        } else {
            line.write('!');
        }
    }

    // ---- whether all is sound

    private boolean areScriptsSound() {
        for (int s = 0; s < scripts.length; s++) {
            for (int r = 0; r < ropes.length; r++) {
                Script script = scripts[s];
                Row row = ropes[r].row;
                if (script.suits(row) && !(leadsBack(script, row) && leadsMirrored(script, row))) {
                    return false;
                }
            }
        }
        return true;
    }

    private boolean leadsBack(Script script, Row row) {
        made.become(row);
        script.changeAll(made);
        draftInverse(script, row);
        if (!draft.suits(made)) {
            return false;
        }
        draft.changeAll(made);
        return made.isLike(row);
    }

    private boolean leadsMirrored(Script script, Row row) {
        made.become(row);
        script.changeAll(made);
        made.turn();
        again.become(row);
        again.turn();
        draftMirror(script, row);
        if (!draft.suits(again)) {
            return false;
        }
        draft.changeAll(again);
        return again.isLike(made);
    }

    private boolean areTurnsSound() {
        for (int r = 0; r < ropes.length; r++) {
            again.become(ropes[r].row);
            again.turn();
            again.turn();
            if (!again.isLike(ropes[r].row)) {
                return false;
            }
        }
        return true;
    }

    private boolean arePairsSound() {
        for (int r = 0; r < ropes.length; r++) {
            for (int o = 0; o < ropes.length; o++) {
                Row one = ropes[r].row;
                Row two = ropes[o].row;
                lattice.fill(one, two);
                int least = lattice.at(0, 0);
                keepLeast(r, o, least);
                if ((least == 0) != one.isLike(two)) {
                    return false;
                }
                if (draftBetween(one, two) && !draftLeads(one, two, least)) {
                    return false;
                }
            }
        }
        return true;
    }

    private boolean draftLeads(Row one, Row two, int withJust) {
        if (!draft.suits(one)) {
            return false;
        }
        made.become(one);
        draft.changeAll(made);
        return made.isLike(two) && draft.going() + draft.coming() == withJust;
    }

    /** Needs what arePairsSound() has kept. */
    private boolean areLeastsSound() {
        for (int r = 0; r < ROPES; r++) {
            for (int o = 0; o < ROPES; o++) {
                if (leastKept(r, o) != leastKept(o, r)) {
                    return false;
                }
                for (int by = 0; by < ROPES; by++) {
                    if (leastKept(r, o) > leastKept(r, by) + leastKept(by, o)) {
                        return false;
                    }
                }
            }
        }
        return true;
    }

    private boolean areMarksSound() {
        for (int r = 0; r < ropes.length; r++) {
            for (int m = 0; m < MARKS; m++) {
                int at = ropes[r].markAt(m);
                if (at < NONE || at > ropes[r].row.size) {
                    return false;
                }
            }
        }
        return true;
    }

    private void keepLeast(int rope, int other, int least) {
        int cell = rope * ROPES + other;
        if (cell >= 0 && cell < leasts.length) {
            leasts[cell] = least;
        }
    }

    private int leastKept(int rope, int other) {
        int cell = rope * ROPES + other;
        return cell >= 0 && cell < leasts.length ? leasts[cell] : 0;
    }

    // ---- the checksum

    private static long mixed(long sum, long value) {
        return sum * 31 + value;
    }

    private long mixedLine(long sum) {
        long grown = sum;
        for (int i = 0; i < line.size; i++) {
            grown = mixed(grown, line.at(i));
        }
        return grown;
    }

    private long mixedRope(long sum, Rope rope) {
        line.clear();
        line.writeRow(rope.row);
        long grown = mixed(mixedLine(sum), rope.past.size);
        for (int k = 0; k < MOST_KEPT; k++) {
            writeUndoing(rope.past, k);
            grown = mixedLine(grown);
        }
        for (int m = 0; m < MARKS; m++) {
            grown = mixed(grown, rope.markAt(m));
        }
        return grown;
    }

    private long mixedScript(long sum, Script script) {
        line.clear();
        line.writeScript(script);
        long grown = mixedLine(sum);
        for (int what = 0; what < SCRIPT_NUMBERS; what++) {
            grown = mixed(grown, numberOfScript(script, what));
        }
        for (int r = 0; r < ropes.length; r++) {
            writeMade(script, ropes[r]);
            grown = mixedLine(grown);
        }
        return grown;
    }

    // ---- the parts

    private static char letterOf(int sign) {
        if (sign < FIRST_DIGIT) {
            return (char) ('a' + sign);
        }
        return sign < DASH ? (char) ('0' + sign - FIRST_DIGIT) : '-';
    }

    /** A row of signs, in an array that is made once. */
    private static final class Row {
        private final int[] signs;
        private int size;

        Row(int room) {
            signs = new int[Math.max(0, room)];
        }

        int at(int place) {
            return place >= 0 && place < signs.length ? signs[place] : NONE;
        }

        private void lay(int place, int sign) {
            if (place >= 0 && place < signs.length) {
                signs[place] = sign;
            }
        }

        void push(int sign) {
            if (size >= 0 && size < signs.length) {
                signs[size] = sign;
                size++;
            }
        }

        void pushWord(int first, int many) {
            for (int i = 0; i < many; i++) {
                push((first + i) % SIGNS);
            }
        }

        void pushNumber(int number) {
            // As a long, because the least int has no positive fellow among the ints.
            long left = number;
            if (left < 0) {
                push(DASH);
                left = -left;
            }
            for (long unit = GREATEST_UNIT; unit > 0; unit /= 10) {
                if (unit <= left || unit == 1) {
                    push(FIRST_DIGIT + (int) (left / unit % 10));
                }
            }
        }

        void become(Row other) {
            becomeStretch(other, 0, other.size);
        }

        void becomeStretch(Row other, int from, int to) {
            size = 0;
            if (from >= 0 && from <= to && to <= other.signs.length && to - from <= signs.length) {
                System.arraycopy(other.signs, from, signs, 0, to - from);
                size = to - from;
            }
        }

        void turn() {
            for (int i = 0, j = size - 1; i < j; i++, j--) {
                int kept = at(i);
                lay(i, at(j));
                lay(j, kept);
            }
        }

        void change(Splice splice) {
            int grown = size + splice.growth();
            boolean hasPlaces = splice.from >= 0 && splice.from <= splice.to && splice.to <= size;
            if (hasPlaces && grown <= signs.length) {
                int behindText = splice.from + splice.text.size;
                System.arraycopy(signs, splice.to, signs, behindText, size - splice.to);
                System.arraycopy(splice.text.signs, 0, signs, splice.from, splice.text.size);
                size = grown;
            }
        }

        boolean isLike(Row other) {
            return size == other.size && hasAt(0, other);
        }

        boolean hasAt(int place, Row word) {
            for (int i = 0; i < word.size; i++) {
                if (at(place + i) != word.at(i)) {
                    return false;
                }
            }
            return true;
        }

        int orderTo(Row other) {
            int both = Math.min(size, other.size);
            for (int i = 0; i < both; i++) {
                if (at(i) != other.at(i)) {
                    // The letters' codes stand in the order that is asked for, the signs' numbers do not.
                    return letterOf(at(i)) < letterOf(other.at(i)) ? -1 : 1;
                }
            }
            return Integer.compare(size, other.size);
        }

        long asNumber() {
            boolean below = size > 0 && at(0) == DASH;
            int begin = below ? 1 : 0;
            if (size == begin) {
                return NO_NUMBER;
            }
            long value = 0;
            for (int i = begin; i < size; i++) {
                int digit = at(i) - FIRST_DIGIT;
                if (digit < 0 || digit > 9) {
                    return NO_NUMBER;
                }
                value = Math.min(NO_NUMBER, value * 10 + digit);
            }
            value = below ? -value : value;
            return value == (int) value ? value : NO_NUMBER;
        }
    }

    private static final class Splice {
        private int from;
        private int to;
        private final Row text;

        Splice() {
            text = new Row(MOST_SIGNS);
        }

        int growth() {
            return text.size - (to - from);
        }

        void begin(int newFrom, int newTo) {
            from = newFrom;
            to = newTo;
            text.size = 0;
        }

        void become(Splice other) {
            from = other.from;
            to = other.to;
            text.become(other.text);
        }

        void becomeUndoing(Splice act, Row ahead) {
            from = act.from;
            to = act.from + act.text.size;
            text.becomeStretch(ahead, act.from, act.to);
        }

        void moveBy(int places) {
            from += places;
            to += places;
        }

        int carried(int mark) {
            if (mark <= from) {
                return mark;
            }
            return mark >= to ? mark + growth() : from;
        }
    }

    private static final class Script {
        private final Splice[] splices;
        private final Splice beyond;
        private int size;

        Script() {
            splices = new Splice[MOST_SPLICES];
            for (int k = 0; k < splices.length; k++) {
                splices[k] = new Splice();
            }
            beyond = new Splice();
        }

        Splice at(int k) {
            return k >= 0 && k < splices.length ? splices[k] : beyond;
        }

        boolean isFull() {
            return size >= splices.length;
        }

        Splice next() {
            Splice free = at(size);
            if (!isFull()) {
                size++;
            }
            return free;
        }

        void become(Script other) {
            size = other.size;
            for (int k = 0; k < other.size; k++) {
                at(k).become(other.at(k));
            }
        }

        void exchange(int k, int other) {
            if (k >= 0 && k < splices.length && other >= 0 && other < splices.length) {
                Splice kept = splices[k];
                splices[k] = splices[other];
                splices[other] = kept;
            }
        }

        int going() {
            int signs = 0;
            for (int k = 0; k < size; k++) {
                signs += at(k).to - at(k).from;
            }
            return signs;
        }

        int coming() {
            int signs = 0;
            for (int k = 0; k < size; k++) {
                signs += at(k).text.size;
            }
            return signs;
        }

        boolean suits(Row row) {
            int signs = row.size;
            for (int k = 0; k < size; k++) {
                if (at(k).to > signs) {
                    return false;
                }
                signs += at(k).growth();
            }
            return signs <= MOST_SIGNS;
        }

        void changeAll(Row row) {
            for (int k = 0; k < size; k++) {
                row.change(at(k));
            }
        }
    }

    /** What undoes an act: a splice, or a turn. */
    private static final class Undoing {
        private boolean isTurn;
        private final Splice splice;

        Undoing() {
            splice = new Splice();
        }
    }

    /** What undoes the last acts of a rope: a ring, so that the oldest one makes room. */
    private static final class Past {
        private final Undoing[] ring;
        private final Undoing nothing;
        private int oldest;
        private int size;

        Past() {
            ring = new Undoing[MOST_KEPT];
            for (int k = 0; k < ring.length; k++) {
                ring[k] = new Undoing();
            }
            nothing = new Undoing();
        }

        Undoing back(int k) {
            int slot = Math.floorMod(oldest + size - 1 - k, MOST_KEPT);
            return slot >= 0 && slot < ring.length ? ring[slot] : nothing;
        }

        void keepTurn() {
            makeRoom();
            back(0).isTurn = true;
        }

        void keepSplice(Splice act, Row ahead) {
            makeRoom();
            back(0).isTurn = false;
            back(0).splice.becomeUndoing(act, ahead);
        }

        private void makeRoom() {
            if (size < MOST_KEPT) {
                size++;
            } else {
                oldest = (oldest + 1) % MOST_KEPT;
            }
        }

        void forgetLast() {
            size = Math.max(0, size - 1);
        }
    }

    private static final class Rope {
        private final Row row;
        private final Past past;
        private final int[] marks;

        Rope() {
            row = new Row(MOST_BETWEEN_SPLICES);
            past = new Past();
            marks = new int[MARKS];
            for (int m = 0; m < marks.length; m++) {
                marks[m] = NONE;
            }
        }

        int markAt(int mark) {
            return mark >= 0 && mark < marks.length ? marks[mark] : NONE;
        }

        void moveMark(int mark, int place) {
            if (mark >= 0 && mark < marks.length) {
                marks[mark] = place;
            }
        }

        void act(Splice splice) {
            past.keepSplice(splice, row);
            change(splice);
        }

        void change(Splice splice) {
            for (int m = 0; m < marks.length; m++) {
                marks[m] = splice.carried(marks[m]);
            }
            row.change(splice);
        }

        void turn() {
            for (int m = 0; m < marks.length; m++) {
                if (marks[m] != NONE) {
                    marks[m] = row.size - marks[m];
                }
            }
            row.turn();
        }

        boolean canGoBack() {
            if (past.size == 0) {
                return false;
            }
            Undoing last = past.back(0);
            return last.isTurn || row.size + last.splice.growth() <= MOST_SIGNS;
        }

        void goBack() {
            Undoing last = past.back(0);
            if (last.isTurn) {
                turn();
            } else {
                change(last.splice);
            }
            past.forgetLast();
        }
    }

    /** How many signs have to go and to come at least between what is left of two rows. */
    private static final class Lattice {
        private static final int WIDTH = MOST_SIGNS + 1;
        private final int[] cells;

        Lattice() {
            cells = new int[WIDTH * WIDTH];
        }

        int at(int i, int j) {
            int cell = i * WIDTH + j;
            return cell >= 0 && cell < cells.length ? cells[cell] : 0;
        }

        private void lay(int i, int j, int least) {
            int cell = i * WIDTH + j;
            if (cell >= 0 && cell < cells.length) {
                cells[cell] = least;
            }
        }

        void fill(Row one, Row two) {
            for (int j = 0; j <= two.size; j++) {
                lay(one.size, j, two.size - j);
            }
            for (int i = one.size - 1; i >= 0; i--) {
                fillLine(one, i, two);
            }
        }

        private void fillLine(Row one, int i, Row two) {
            int sign = one.at(i);
            int least = one.size - i;
            lay(i, two.size, least);
            for (int j = two.size - 1; j >= 0; j--) {
                least = sign == two.at(j) ? at(i + 1, j + 1) : 1 + Math.min(at(i + 1, j), least);
                lay(i, j, least);
            }
        }
    }

    /** A text that is written sign by sign, so that a checksum needs no String. */
    private static final class Line {
        private final char[] letters;
        private final Row digits;
        private int size;

        Line() {
            letters = new char[LONGEST_LINE];
            digits = new Row(MOST_SIGNS);
        }

        void clear() {
            size = 0;
        }

        char at(int i) {
            return i >= 0 && i < letters.length ? letters[i] : ' ';
        }

        void write(char letter) {
            if (size >= 0 && size < letters.length) {
                letters[size] = letter;
                size++;
            }
        }

        void writeStretch(Row row, int from, int to) {
            for (int i = from; i < to; i++) {
                write(letterOf(row.at(i)));
            }
        }

        void writeRow(Row row) {
            writeStretch(row, 0, row.size);
        }

        void writeNumber(int number) {
            digits.size = 0;
            digits.pushNumber(number);
            writeStretch(digits, 0, digits.size);
        }

        void writeSplice(Splice splice) {
            writeNumber(splice.from);
            write('-');
            writeNumber(splice.to);
            write(':');
            writeRow(splice.text);
        }

        void writeScript(Script script) {
            for (int k = 0; k < script.size; k++) {
                if (k > 0) {
                    write(' ');
                }
                writeSplice(script.at(k));
            }
        }

        String whole() {
            char[] exact = new char[Math.max(0, size)];
            for (int i = 0; i < exact.length; i++) {
                exact[i] = at(i);
            }
            return new String(exact);
        }
    }
}
