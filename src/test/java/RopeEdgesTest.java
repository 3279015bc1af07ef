import java.util.ArrayList;
import java.util.List;
import java.util.function.Function;
import java.util.function.Supplier;

/** Each sentence of parts 1 and 2 of the document, and of promises 1 to 30, that names an edge. */
public final class RopeEdgesTest {
    private static final int MIN = Integer.MIN_VALUE;
    private static final int MAX = Integer.MAX_VALUE;

    public static void main(String[] args) {
        signsAreNumberedFromZeroToThirtySix();
        wordsHaveNoneToSixSigns();
        placesAreZeroToTheLength();
        ropesHoldForty();
        actsUpToForty();
        actsAtForty();
        exceptionsGoAheadOfRefused();
        actsThatChangeNothingAreActs();
        whatUndoesAnAct();
        historyHasTheLastTen();
        historyOfSplicesAndTurns();
        undoOfNone();
        undoUpToForty();
        undoIsNotKept();
        marksAreNoneAtFirst();
        splicesCarryMarks();
        undoAndRunCarryMarks();
        turnsCarryMarks();
        numbersAsDigits();
        ropesThatAreNumbers();
        wordsAreFound();
        ropesInTheirOrder();
        stretches();
        spans();
        actsTellWhatWent();
        Checks.end();
    }

    /** "SIGNS: 0 to 25 "a" to "z", 26 to 35 "0" to "9", 36 "-"." */
    private static void signsAreNumberedFromZeroToThirtySix() {
        for (int sign = 0; sign <= 36; sign++) {
            Editropes x = new Editropes();
            String letter = Given.SIGNS.substring(sign, sign + 1);
            x.putSign(0, sign);
            x.insertSign(0, 0, sign);
            x.put(0, sign, 1);
            Checks.same("sign " + sign, x.text(0), letter.repeat(3));
            Checks.same("sign " + sign + " is told", x.sign(0, 1), sign);
            Checks.same("sign " + sign + " was there", x.set(0, 2, (sign + 1) % 37), sign);
            Checks.same("sign " + sign + " goes", x.drop(0, 0), sign);
        }
    }

    /** "many SIGNS (0 to 6), first (0 to 36), the next number, and so on (behind 36 comes 0)" */
    private static void wordsHaveNoneToSixSigns() {
        for (int first = 0; first <= 36; first++) {
            for (int many = 0; many <= 6; many++) {
                String word = (Given.SIGNS + Given.SIGNS).substring(first, first + many);
                Editropes x = Given.ropes("zz", "zz", "zz");
                Checks.same("put of " + word, x.put(0, first, many), 2 + many);
                Checks.same("put " + word, x.text(0), "zz" + word);
                Checks.same("insert of " + word, x.insert(1, 1, first, many), 2 + many);
                Checks.same("insert " + word, x.text(1), "z" + word + "z");
                Checks.same("replace of " + word, x.replace(2, 0, 1, first, many), 1 + many);
                Checks.same("replace " + word, x.text(2), word + "z");
                x.add(0, 1, 1, first, many);
                Checks.same("add " + word, x.told(0), "1-1:" + word);
                wordIsFoundWhole(first, many);
            }
        }
    }

    private static void wordIsFoundWhole(int first, int many) {
        Editropes x = new Editropes();
        x.put(0, first, many);
        Checks.same("find " + x.text(0), x.find(0, first, many, 0), 0);
        Checks.same("findLast " + x.text(0), x.findLast(0, first, many, many), 0);
        for (int at = 0; at < many; at++) {
            int was = x.set(0, at, (first + 20) % 37);
            Checks.same("find but for sign " + at, x.find(0, first, many, 0), -1);
            Checks.same("findLast but for sign " + at, x.findLast(0, first, many, many), -1);
            x.set(0, at, was);
        }
    }

    /** "PLACES of a ROPE: 0 (ahead of all) to its length (behind all); the SIGN at a PLACE is that behind it." */
    private static void placesAreZeroToTheLength() {
        for (String text : new String[] {"", "a", "abc", Given.digits(39)}) {
            for (int at = 0; at <= text.length(); at++) {
                Editropes x = Given.ropes(text, text, text);
                String due = text.substring(0, at) + "-" + text.substring(at);
                Checks.same("insertSign at " + at, x.insertSign(0, at, 36), text.length() + 1);
                Checks.same("insertSign's text at " + at, x.text(0), due);
                Checks.same("sign at " + at, x.sign(0, at), 36);
                x.insert(1, at, 36, 1);
                Checks.same("insert's text at " + at, x.text(1), due);
                Checks.same("replace at " + at, x.replace(2, at, at, 36, 1), text.length() + 1);
                Checks.same("replace's text at " + at, x.text(2), due);
                Checks.same("drop at " + at, x.drop(0, at), 36);
                Checks.same("drop's text at " + at, x.text(0), text);
            }
        }
    }

    /** "ROPES 0 to 2: rows of SIGNS, at most 40 (none at first)." */
    private static void ropesHoldForty() {
        for (int r = 0; r < 3; r++) {
            int rope = r;
            Editropes x = new Editropes();
            Checks.same("none at first", x.length(rope), 0);
            for (int many = 1; many <= 40; many++) {
                Checks.same("sign " + many + " of rope " + rope, x.putSign(rope, many % 37), many);
            }
            Checks.refused("a sign more in rope " + rope, x, () -> x.putSign(rope, 0));
            Checks.same("the length of a full one", x.length(rope), 40);
            Checks.same("the others stay empty", x.house(0), 40);
        }
    }

    private static void upToForty(String what, int growth, Function<Editropes, Object> act) {
        Editropes fits = Given.ropes(Given.digits(40 - growth), "abcdefg");
        act.apply(fits);
        Checks.same(what + " up to 40", fits.length(0), 40);
        Checks.same(what + " up to 40 is not REFUSED", fits.house(4), 0);
        Editropes beyond = Given.ropes(Given.digits(41 - growth), "abcdefg");
        beyond.mark(0, 3, 2);
        Checks.refused(what + " up to 41", beyond, () -> act.apply(beyond));
    }

    /** "As there would be more than 40 SIGNS, an act is REFUSED." */
    private static void actsUpToForty() {
        upToForty("put of 6", 6, x -> x.put(0, 0, 6));
        upToForty("put of 1", 1, x -> x.put(0, 36, 1));
        upToForty("putSign", 1, x -> x.putSign(0, 0));
        upToForty("putNumber of 0", 1, x -> x.putNumber(0, 0));
        upToForty("putNumber of -1", 2, x -> x.putNumber(0, -1));
        upToForty("putNumber of the greatest", 10, x -> x.putNumber(0, MAX));
        upToForty("putNumber of the least", 11, x -> x.putNumber(0, MIN));
        upToForty("putRope", 7, x -> x.putRope(0, 1));
        upToForty("insert", 6, x -> x.insert(0, 3, 0, 6));
        upToForty("insert ahead of all", 1, x -> x.insert(0, 0, 0, 1));
        upToForty("insertNumber of 9", 1, x -> x.insertNumber(0, 0, 9));
        upToForty("insertNumber of the least", 11, x -> x.insertNumber(0, 5, MIN));
        upToForty("insertSign", 1, x -> x.insertSign(0, 7, 7));
        upToForty("replace of none", 6, x -> x.replace(0, 2, 2, 0, 6));
        upToForty("replace of two", 4, x -> x.replace(0, 2, 4, 0, 6));
        upToForty("replace of five", 1, x -> x.replace(0, 2, 7, 0, 6));
        Editropes x = Given.ropes(Given.digits(20), Given.digits(21));
        Checks.same("a rope of 20 behind itself", x.putRope(0, 0), 40);
        Checks.refused("a rope of 21 behind itself", x, () -> x.putRope(1, 1));
        Checks.refused("a rope of 40 behind itself", x, () -> x.putRope(0, 0));
    }

    private static void doneAtForty(String what, int lengthThen, Function<Editropes, Object> act) {
        Editropes x = Given.ropes(Given.digits(40), "", "a".repeat(40));
        act.apply(x);
        Checks.same(what + " at 40", x.length(0), lengthThen);
        Checks.same(what + " at 40 is done", x.house(2), 81);
        Checks.same(what + " at 40 is not REFUSED", x.house(4), 0);
    }

    /** What lets no more than 40 SIGNS be is not REFUSED. */
    private static void actsAtForty() {
        doneAtForty("put of none", 40, x -> x.put(0, 9, 0));
        doneAtForty("putRope of none", 40, x -> x.putRope(0, 1));
        doneAtForty("insert of none", 40, x -> x.insert(0, 40, 9, 0));
        doneAtForty("delete of none", 40, x -> x.delete(0, 40, 40));
        doneAtForty("delete of all", 0, x -> x.delete(0, 0, 40));
        doneAtForty("drop of the last", 39, x -> x.drop(0, 39));
        doneAtForty("set of the last", 40, x -> x.set(0, 39, 36));
        doneAtForty("replace by as many", 40, x -> x.replace(0, 34, 40, 0, 6));
        doneAtForty("replace by fewer", 6, x -> x.replace(0, 0, 40, 0, 6));
        doneAtForty("cut of none", 40, x -> x.cut(0, 40));
        doneAtForty("cut of all", 0, x -> x.cut(0, 0));
        doneAtForty("reverse", 40, x -> x.reverse(0));
        doneAtForty("copy of 40 to 40", 40, x -> x.copy(2, 0));
        doneAtForty("copy to itself", 40, x -> x.copy(0, 0));
        doneAtForty("copy of none", 0, x -> x.copy(1, 0));
        doneAtForty("copy to none", 40, x -> x.copy(0, 1));
    }

    private static void thrown(String what, Editropes x, Supplier<Object> call, String exception) {
        String before = Given.state(x);
        int refused = x.house(4);
        Checks.same(what, Checks.outcome(call), "throws." + exception);
        Checks.same(what + " is not counted", x.house(4), refused);
        Checks.same(what + " changes nothing", Given.state(x), before);
    }

    /** "(exceptions go ahead of it)" */
    private static void exceptionsGoAheadOfRefused() {
        String index = "IndexOutOfBoundsException";
        String argument = "IllegalArgumentException";
        Editropes x = Given.ropes(Given.digits(40), "");
        thrown("put of no WORD at 40", x, () -> x.put(0, 0, 7), argument);
        thrown("putSign of no SIGN at 40", x, () -> x.putSign(0, 37), argument);
        thrown("putRope of no ROPE at 40", x, () -> x.putRope(0, 3), index);
        thrown("insert at no PLACE at 40", x, () -> x.insert(0, 41, 0, 6), index);
        thrown("insert of no WORD at 40", x, () -> x.insert(0, 40, 37, 6), argument);
        thrown("insertNumber at no PLACE at 40", x, () -> x.insertNumber(0, 41, 5), index);
        thrown("insertSign at no PLACE at 40", x, () -> x.insertSign(0, -1, 5), index);
        thrown("insertSign of no SIGN at 40", x, () -> x.insertSign(0, 5, -1), argument);
        thrown("replace up to no PLACE at 40", x, () -> x.replace(0, 40, 41, 0, 6), index);
        thrown("replace of less than none at 40", x, () -> x.replace(0, 3, 2, 0, 6), index);
        thrown("replace by no WORD at 40", x, () -> x.replace(0, 3, 3, 0, 7), argument);
        thrown("undo of no ROPE", x, () -> x.undo(3), index);
    }

    private static void changesNothing(String text, String undoing, Function<Editropes, Object> act) {
        Editropes x = Given.ropes(text);
        x.mark(0, 0, 0);
        x.mark(0, 1, text.length());
        int acts = x.house(2);
        act.apply(x);
        String what = "an act that changes nothing of \"" + text + "\" (" + undoing + ")";
        Checks.same(what, x.text(0), text);
        Checks.same(what + " comes to the history", x.history(0), text.length() + 1);
        Checks.same(what + " is undone", x.undoes(0, 0), undoing);
        Checks.same(what + " is counted", x.house(2), acts + 1);
        Checks.same(what + " has its undo", x.undo(0), text.length());
        Checks.same(what + " is back", x.text(0), text);
        Checks.same(what + ": its undo is counted", x.house(2), acts + 2);
    }

    /** "An act that is done (also if it changes nothing) comes to the HISTORY of its ROPE" */
    private static void actsThatChangeNothingAreActs() {
        changesNothing("", "0-0:", x -> x.put(0, 36, 0));
        changesNothing("abc", "3-3:", x -> x.put(0, 0, 0));
        changesNothing("abc", "3-3:", x -> x.putRope(0, 1));
        changesNothing("", "0-0:", x -> x.putRope(0, 0));
        changesNothing("abc", "0-0:", x -> x.insert(0, 0, 5, 0));
        changesNothing("abc", "2-2:", x -> x.delete(0, 2, 2));
        changesNothing("", "0-0:", x -> x.delete(0, 0, 0));
        changesNothing("abc", "1-2:b", x -> x.set(0, 1, 1));
        changesNothing("abc", "1-1:", x -> x.replace(0, 1, 1, 0, 0));
        changesNothing("abc", "1-3:bc", x -> x.replace(0, 1, 3, 1, 2));
        changesNothing("abc", "3-3:", x -> x.cut(0, 3));
        changesNothing("", "0-0:", x -> x.cut(0, 0));
        changesNothing("", "turn", x -> x.reverse(0));
        changesNothing("a", "turn", x -> x.reverse(0));
        changesNothing("aba", "turn", x -> x.reverse(0));
        changesNothing("abc", "0-3:abc", x -> x.copy(0, 0));
        changesNothing("", "0-0:", x -> x.copy(1, 0));
    }

    private static void undone(String undoing, Function<Editropes, Object> act) {
        Editropes x = Given.ropes("abcdef", "xy");
        act.apply(x);
        Checks.same("what undoes it", x.undoes(0, 0), undoing);
        x.undo(0);
        Checks.same("undone by " + undoing, x.text(0), "abcdef");
    }

    /** "of a SPLICE (from, to, text) the SPLICE (from, from + how many SIGNS the text has, what went)" */
    private static void whatUndoesAnAct() {
        undone("6-12:", x -> x.put(0, 0, 6));
        undone("6-7:", x -> x.putSign(0, 9));
        undone("6-17:", x -> x.putNumber(0, MIN));
        undone("6-8:", x -> x.putRope(0, 1));
        undone("6-12:", x -> x.putRope(0, 0));
        undone("0-3:", x -> x.insert(0, 0, 35, 3));
        undone("6-8:", x -> x.insertNumber(0, 6, -4));
        undone("3-4:", x -> x.insertSign(0, 3, 36));
        undone("0-0:abcdef", x -> x.delete(0, 0, 6));
        undone("5-5:f", x -> x.drop(0, 5));
        undone("0-1:a", x -> x.set(0, 0, 36));
        undone("1-7:bcd", x -> x.replace(0, 1, 4, 0, 6));
        undone("0-0:abcdef", x -> x.replace(0, 0, 6, 0, 0));
        undone("0-0:abcdef", x -> x.cut(0, 0));
        undone("5-5:f", x -> x.cut(0, 5));
        undone("0-2:abcdef", x -> x.copy(1, 0));
        undone("0-0:abcdef", x -> x.copy(2, 0));
        undone("turn", x -> x.reverse(0));
    }

    /** "HISTORY has the last 10 (older ones are forgotten)." */
    private static void historyHasTheLastTen() {
        for (int acts : new int[] {0, 1, 9, 10, 11, 12, 19, 20, 21, 22, 29, 30, 31, 40}) {
            Editropes x = new Editropes();
            for (int i = 0; i < acts; i++) {
                x.insertSign(1, i / 2, i % 37);
            }
            int kept = Math.min(acts, 10);
            Checks.same("the history of " + acts, x.history(1), kept);
            for (int k = 0; k < 12; k++) {
                int place = (acts - 1 - k) / 2;
                Checks.same("what undoes " + k + " of " + acts, x.undoes(1, k), k < kept ? place + "-" + (place + 1) + ":" : "-");
            }
            for (int left = kept - 1; left >= 0; left--) {
                Checks.same("undo of " + acts, x.undo(1), left);
            }
            Checks.refused("undo of what is forgotten of " + acts, x, () -> x.undo(1));
            Checks.same("what was forgotten of " + acts + " stays", x.length(1), acts - kept);
        }
    }

    /** Each act takes the room of an older one: no turn may be left where a splice comes, nor a splice's text. */
    private static void historyOfSplicesAndTurns() {
        Editropes x = Given.ropes("");
        List<String> undoing = new ArrayList<>();
        List<String> texts = new ArrayList<>();
        for (int i = 0; i < 37; i++) {
            texts.add(x.text(0));
            if (i % 4 == 1 || i % 7 == 2) {
                x.reverse(0);
                undoing.add("turn");
            } else if (i % 4 == 3) {
                undoing.add("0-0:" + x.part(0, 0, 1));
                x.drop(0, 0);
            } else {
                undoing.add(x.length(0) + "-" + (x.length(0) + 2) + ":");
                x.put(0, i, 2);
            }
            for (int k = 0; k < 10; k++) {
                int at = undoing.size() - 1 - k;
                Checks.same("what undoes " + k + " behind act " + i, x.undoes(0, k), at >= 0 ? undoing.get(at) : "-");
            }
        }
        for (int k = 1; k <= 10; k++) {
            x.undo(0);
            Checks.same("undo " + k + " of splices and turns", x.text(0), texts.get(texts.size() - k));
        }
    }

    /** "REFUSED without any" */
    private static void undoOfNone() {
        for (int r = 0; r < 3; r++) {
            int rope = r;
            Editropes x = new Editropes();
            Checks.refused("undo of a new rope", x, () -> x.undo(rope));
            x.putSign((rope + 1) % 3, 0);
            Checks.refused("undo of what another rope did", x, () -> x.undo(rope));
            x.reverse(rope);
            Checks.same("undo of the one act", x.undo(rope), 0);
            Checks.refused("undo behind the last", x, () -> x.undo(rope));
        }
    }

    /** "(unless there would be more than 40 SIGNS: REFUSED)": that can be by a run with more between its splices. */
    private static void undoUpToForty() {
        Editropes fits = Given.ropes(Given.digits(39));
        Given.splices(fits, 0, "39-39:a 0-1:");
        fits.run(0, 0);
        Checks.same("undo up to 40", fits.undo(0), 9);
        Checks.same("undo up to 40, text", fits.text(0), Given.digits(39) + "a");
        Checks.same("undo of a splice at 40", fits.undo(0), 8);
        Editropes x = Given.ropes(Given.digits(40));
        Given.splices(x, 0, "40-40:a 0-1:");
        x.run(0, 0);
        x.mark(0, 0, 0);
        x.mark(0, 1, 40);
        Checks.refused("undo up to 41", x, () -> x.undo(0));
        Checks.refused("undo up to 41 again", x, () -> x.undo(0));
        x.reverse(0);
        Checks.same("undo of a turn at 40", x.undo(0), 9);
        x.drop(0, 0);
        Checks.same("undo of what came behind", x.undo(0), 9);
        Checks.refused("undo up to 41 behind that", x, () -> x.undo(0));
        Checks.same("what stays to be undone", x.undoes(0, 0), "0-0:0");
    }

    /** "which goes from it, and nothing comes to it" */
    private static void undoIsNotKept() {
        Editropes x = Given.ropes("ab");
        x.reverse(0);
        x.undo(0);
        Checks.same("what is left to be undone", x.undoes(0, 0), "1-2:");
        Checks.same("how many are left", x.history(0), 2);
        x.undo(0);
        Checks.same("the undone is not done again", x.text(0), "a");
        Checks.same("behind the last one", x.undoes(0, 1), "-");
    }

    /** "Each ROPE has MARKS 0 to 3, each NONE (at first) or a PLACE." */
    private static void marksAreNoneAtFirst() {
        Editropes x = Given.ropes("abcdefghijkl", "abcdefghijkl", "abcdefghijkl");
        for (int i = 0; i < 12; i++) {
            Checks.same("the place of a new mark", x.place(i / 4, i % 4), -1);
            Checks.same("where a new mark was", x.mark(i / 4, i % 4, i), -1);
            Checks.same("marks that are not NONE", x.house(3), i + 1);
        }
        for (int i = 0; i < 12; i++) {
            Checks.same("the place of mark " + i, x.place(i / 4, i % 4), i);
            Checks.same("mark " + i + " goes behind all", x.mark(i / 4, i % 4, 12), i);
            Checks.same("mark " + i + " goes", x.mark(i / 4, i % 4, -1), 12);
            Checks.same("marks that are left", x.house(3), 11 - i);
            Checks.same("NONE to NONE", x.mark(i / 4, i % 4, -1), -1);
        }
    }

    /** The document's words, in their order. */
    private static int carried(int p, int from, int to, int many) {
        if (p <= from) {
            return p;
        }
        return p >= to ? p + many - (to - from) : from;
    }

    /** "p is from, or less (this first): it stays; otherwise p is to, or greater: [..]; otherwise it is from." */
    private static void splicesCarryMarks() {
        for (int from = 0; from <= 5; from++) {
            for (int to = from; to <= 5; to++) {
                for (int many = 0; many <= 6; many++) {
                    for (int p = -1; p <= 5; p++) {
                        Editropes x = Given.ropes("abcde");
                        x.mark(0, 2, p);
                        x.replace(0, from, to, 10, many);
                        String what = "mark " + p + " by " + from + "-" + to + " and " + many;
                        int due = carried(p, from, to, many);
                        Checks.same(what, x.place(0, 2), due);
                        x.undo(0);
                        Checks.same(what + ", undone", x.place(0, 2), carried(due, from, from + many, to - from));
                    }
                }
            }
        }
    }

    private static void undoAndRunCarryMarks() {
        Editropes x = Given.ropes("abcdef");
        for (int m = 0; m < 4; m++) {
            x.mark(0, m, 2 * m);
        }
        Given.splices(x, 0, "2-2:xyz 0-4: 1-5:0");
        x.run(0, 0);
        int[] due = {0, 0, 1, 2};
        for (int m = 0; m < 4; m++) {
            Checks.same("mark " + m + " by each splice", x.place(0, m), due[m]);
        }
        x.copy(1, 0);
        for (int m = 0; m < 4; m++) {
            Checks.same("mark " + m + " of an empty rope", x.place(0, m), 0);
        }
    }

    /** "REVERSE: it is the length less p (NONE stays NONE)." */
    private static void turnsCarryMarks() {
        for (int length : new int[] {0, 1, 2, 7, 40}) {
            for (int p = -1; p <= length; p++) {
                Editropes x = Given.ropes("", "", Given.digits(length));
                x.mark(2, 0, p);
                x.reverse(2);
                Checks.same("mark " + p + " of " + length + " turned", x.place(2, 0), p == -1 ? -1 : length - p);
                x.undo(2);
                Checks.same("mark " + p + " of " + length + " turned back", x.place(2, 0), p);
            }
        }
    }

    /** "A number comes behind all, as its digits, with "-" ahead if it is below 0." */
    private static void numbersAsDigits() {
        int[] numbers = {0, 1, -1, 9, 10, -9, -10, 99, 100, 999999999, 1000000000, -1000000000, MAX, MAX - 1, MIN, MIN + 1};
        for (int number : numbers) {
            Editropes x = Given.ropes("z", "yz");
            String digits = Integer.toString(number);
            Checks.same("putNumber of " + number, x.putNumber(0, number), 1 + digits.length());
            Checks.same("putNumber " + number, x.text(0), "z" + digits);
            Checks.same("insertNumber of " + number, x.insertNumber(1, 1, number), 2 + digits.length());
            Checks.same("insertNumber " + number, x.text(1), "y" + digits + "z");
            Checks.same("insertNumber at 0 of " + number, x.insertNumber(2, 0, number), digits.length());
            for (int at = 0; at < digits.length(); at++) {
                Checks.same("a sign of " + number, x.sign(2, at), Given.SIGNS.indexOf(digits.charAt(at)));
            }
            Checks.same("it is a number: " + number, x.isNumber(2), true);
            Checks.same("the number " + number, x.number(2), number);
        }
    }

    private static void numberOf(String text, boolean is, int due) {
        Editropes x = Given.ropes("7", text, "7");
        Checks.same("isNumber of " + text, x.isNumber(1), is);
        Checks.same("number of " + text, x.number(1), due);
    }

    /** "digits, at least one, perhaps with "-" ahead, if that is -2147483648 to 2147483647; 0 if they are none" */
    private static void ropesThatAreNumbers() {
        numberOf("", false, 0);
        numberOf("-", false, 0);
        numberOf("0", true, 0);
        numberOf("-0", true, 0);
        numberOf("0".repeat(40), true, 0);
        numberOf("-" + "0".repeat(38) + "1", true, -1);
        numberOf("2147483647", true, MAX);
        numberOf("2147483648", false, 0);
        numberOf("-2147483648", true, MIN);
        numberOf("-2147483649", false, 0);
        numberOf("0".repeat(30) + "2147483647", true, MAX);
        numberOf("0".repeat(30) + "2147483648", false, 0);
        numberOf("-" + "0".repeat(29) + "2147483648", true, MIN);
        numberOf("-" + "0".repeat(29) + "2147483649", false, 0);
        numberOf("9".repeat(40), false, 0);
        numberOf("1" + "0".repeat(39), false, 0);
        // What wraps around in 32 or in 64 bits, and would then be a number.
        numberOf("4294967296", false, 0);
        numberOf("-4294967297", false, 0);
        numberOf("18446744073709551616", false, 0);
        numberOf("18446744073709551617", false, 0);
        numberOf("340282366920938463463374607431768211457", false, 0);
        numberOf("--5", false, 0);
        numberOf("5-", false, 0);
        numberOf("1-1", false, 0);
        numberOf("z9", false, 0);
        numberOf("9a", false, 0);
        numberOf("-a", false, 0);
    }

    /** "the first PLACE, from that on, at which the WORD stands; NONE", and the last one, up to that. */
    private static void wordsAreFound() {
        String[] texts = {"", "a", "-", "abcabcab", "-a9-ab-a", "aaaa", "zab" + Given.digits(37)};
        int[][] words = {{0, 1}, {0, 2}, {0, 3}, {36, 1}, {36, 2}, {35, 4}, {26, 6}, {27, 6}, {25, 6}, {1, 2}, {5, 0}};
        for (String text : texts) {
            Editropes x = Given.ropes("ab", text, "ab");
            for (int[] w : words) {
                String word = (Given.SIGNS + Given.SIGNS).substring(w[0], w[0] + w[1]);
                for (int from = 0; from <= text.length(); from++) {
                    String what = word + " in " + text + " from " + from;
                    Checks.same("find " + what, x.find(1, w[0], w[1], from), text.indexOf(word, from));
                    Checks.same("findLast " + what, x.findLast(1, w[0], w[1], from), text.lastIndexOf(word, from));
                }
            }
        }
    }

    /** ""-" ahead of digits, these rising ahead of letters, these rising", "if there is none the shorter one ahead" */
    private static void ropesInTheirOrder() {
        String order = "-0123456789abcdefghijklmnopqrstuvwxyz";
        for (int one = 0; one < 37; one++) {
            for (int two = 0; two < 37; two++) {
                Editropes x = Given.ropes(order.substring(one, one + 1), order.substring(two, two + 1));
                Checks.same("compare " + x.text(0) + " and " + x.text(1), x.compare(0, 1), Integer.compare(one, two));
            }
        }
        Editropes x = Given.ropes(Given.digits(40), Given.digits(39) + "-", Given.digits(39));
        Checks.same("unlike in the last of 40", x.compare(0, 1), 1);
        Checks.same("unlike in the last of 40, the other way", x.compare(1, 0), -1);
        Checks.same("the shorter one behind", x.compare(0, 2), 1);
        Checks.same("the shorter one ahead", x.compare(2, 1), -1);
        Checks.same("a full one with itself", x.compare(0, 0), 0);
        x.copy(0, 2);
        Checks.same("two full ones that are alike", x.compare(0, 2), 0);
        x.cut(1, 0);
        x.cut(2, 0);
        Checks.same("two empty ones", x.compare(1, 2), 0);
        Checks.same("an empty one ahead", x.compare(1, 0), -1);
        Checks.same("an empty one behind", x.compare(0, 1), 1);
    }

    /** The SIGNS between two PLACES: told, and gone. */
    private static void stretches() {
        for (String text : new String[] {"", "a", "abcde", Given.digits(40)}) {
            for (int from = 0; from <= text.length(); from++) {
                for (int to = from; to <= text.length(); to++) {
                    Editropes x = Given.ropes(text);
                    String left = text.substring(0, from) + text.substring(to);
                    Checks.same("part " + from + " to " + to, x.part(0, from, to), text.substring(from, to));
                    Checks.same("delete " + from + " to " + to, x.delete(0, from, to), left.length());
                    Checks.same("then", x.text(0), left);
                    Checks.same("what went", x.undoes(0, 0), from + "-" + from + ":" + text.substring(from, to));
                }
            }
        }
    }

    /** "Returns the SIGNS between both, whichever is ahead; "" if one is NONE." */
    private static void spans() {
        Editropes x = Given.ropes(Given.digits(40));
        x.mark(0, 1, 0);
        x.mark(0, 2, 40);
        Checks.same("the whole span", x.span(0, 1, 2), Given.digits(40));
        Checks.same("the whole span, the other way", x.span(0, 2, 1), Given.digits(40));
        Checks.same("a span behind all", x.span(0, 2, 2), "");
        Checks.same("a span from NONE", x.span(0, 0, 2), "");
        Checks.same("a span to NONE", x.span(0, 2, 3), "");
        Checks.same("a span of NONE", x.span(0, 3, 3), "");
        x.cut(0, 0);
        Checks.same("a span of an empty rope", x.span(0, 1, 2), "");
    }

    /** drop() and set() return which SIGN it was, cut() how many went: no REFUSED, whatever the sign. */
    private static void actsTellWhatWent() {
        for (int length = 0; length <= 40; length++) {
            Editropes x = Given.ropes(Given.digits(40));
            Checks.same("cut at " + length, x.cut(0, length), 40 - length);
            Checks.same("cut at " + length + ", text", x.text(0), Given.digits(length));
        }
        Editropes x = Given.ropes("a");
        Checks.same("drop of the only one", x.drop(0, 0), 0);
        Checks.same("copy of an empty one", x.copy(0, 1), 0);
        Checks.same("reverse of an empty one", x.reverse(0), 0);
    }
}
