/** Promises 1 to 16: a new object, and the acts of ropes. */
public final class RopeActsTest {
    private static final int MIN = Integer.MIN_VALUE;
    private static final int MAX = Integer.MAX_VALUE;

    public static void main(String[] args) {
        promise1();
        promise2();
        promise3();
        promise4();
        promise5();
        promise6();
        promise7();
        promise8();
        promise9();
        promise10();
        promise11();
        promise12();
        promise13();
        promise14();
        promise15();
        promise16();
        refusedChangesNothing();
        Checks.end();
    }

    /** A new object whose rope 0 has 36 signs by six acts. */
    private static Editropes nearlyFull() {
        Editropes x = new Editropes();
        for (int i = 0; i < 6; i++) {
            x.put(0, 0, 6);
        }
        return x;
    }

    private static Editropes with(int first, int many) {
        Editropes x = new Editropes();
        x.put(0, first, many);
        return x;
    }

    private static void promise1() {
        Editropes x = new Editropes();
        for (int r = 0; r < 3; r++) {
            Checks.same("new length", x.length(r), 0);
            Checks.same("new text", x.text(r), "");
            Checks.same("new history", x.history(r), 0);
            for (int m = 0; m < 4; m++) {
                Checks.same("new place", x.place(r, m), -1);
            }
        }
        for (int s = 0; s < 4; s++) {
            Checks.same("new told", x.told(s), "");
        }
        for (int what = 0; what < 6; what++) {
            Checks.same("new house", x.house(what), 0);
        }
        x.put(0, 0, 6);
        Checks.same("objects have nothing in common", new Editropes().length(0), 0);
    }

    private static void promise2() {
        Editropes x = new Editropes();
        Checks.same("put", x.put(1, 23, 6), 6);
        Checks.same("put's text", x.text(1), "xyz012");
        Checks.same("put over the end", x.put(1, 35, 4), 10);
        Checks.same("behind 36 comes 0", x.text(1), "xyz0129-ab");
        Checks.same("put of 36 alone", x.put(2, 36, 1), 1);
        Checks.same("put of no signs", x.put(2, 0, 0), 1);
        Checks.same("put of no signs is an act", x.history(2), 2);
        Checks.same("put of no signs is counted", x.house(2), 4);
        Checks.same("put's undoing", x.undoes(1, 0), "6-10:");
        Checks.same("other ropes stay", x.text(0), "");
        Editropes full = nearlyFull();
        Checks.same("put beyond 40", full.put(0, 0, 5), -9);
        Checks.same("put up to 40", full.put(0, 0, 4), 40);
        Checks.same("put of nothing at 40", full.put(0, 0, 0), 40);
        Checks.same("put beyond 40 is counted", full.house(4), 1);
        Checks.index("put rope -1", () -> x.put(-1, 0, 1));
        Checks.index("put rope 3", () -> x.put(3, 0, 1));
        Checks.index("put rope MAX", () -> x.put(MAX, 0, 1));
        Checks.index("put rope ahead of word", () -> x.put(3, -1, 9));
        Checks.argument("put first -1", () -> x.put(0, -1, 1));
        Checks.argument("put first 37", () -> x.put(0, 37, 1));
        Checks.argument("put first 37 of none", () -> x.put(0, 37, 0));
        Checks.argument("put many 7", () -> x.put(0, 0, 7));
        Checks.argument("put many -1", () -> x.put(0, 0, -1));
        Checks.argument("put many MIN", () -> x.put(0, 0, MIN));
        Checks.argument("no word ahead of REFUSED", () -> full.put(0, 0, 7));
        Checks.same("throws are not counted", full.house(4), 1);
    }

    private static void promise3() {
        Editropes x = new Editropes();
        Checks.same("putSign 0", x.putSign(2, 0), 1);
        Checks.same("putSign 36", x.putSign(2, 36), 2);
        Checks.same("putSign 26", x.putSign(2, 26), 3);
        Checks.same("putSign's text", x.text(2), "a-0");
        Checks.same("putSign's undoing", x.undoes(2, 0), "2-3:");
        Editropes full = nearlyFull();
        full.put(0, 0, 4);
        Checks.same("putSign beyond 40", full.putSign(0, 0), -9);
        Checks.index("putSign rope 3", () -> x.putSign(3, 0));
        Checks.index("putSign rope -1 ahead of sign", () -> x.putSign(-1, 37));
        Checks.argument("putSign 37", () -> x.putSign(0, 37));
        Checks.argument("putSign -1", () -> x.putSign(0, -1));
        Checks.argument("no sign ahead of REFUSED", () -> full.putSign(0, 37));
    }

    private static void promise4() {
        int[] numbers = {0, 7, 10, -1, -10, 100, 1009, MAX, MIN, MIN + 1, 1000000000, 999999999, -120};
        for (int number : numbers) {
            Editropes x = with(0, 1);
            Checks.same("putNumber " + number, x.putNumber(0, number), 1 + ("" + number).length());
            Checks.same("putNumber's text " + number, x.text(0), "a" + number);
            Checks.same("putNumber is one act", x.history(0), 2);
        }
        Editropes full = nearlyFull();
        Checks.same("putNumber beyond 40", full.putNumber(0, -1000), -9);
        Checks.same("putNumber up to 40", full.putNumber(0, 1000), 40);
        Checks.index("putNumber rope 3", () -> full.putNumber(3, 0));
        Checks.index("putNumber rope MIN", () -> full.putNumber(MIN, 0));
    }

    private static void promise5() {
        Editropes x = with(0, 3);
        x.put(1, 10, 2);
        Checks.same("putRope", x.putRope(0, 1), 5);
        Checks.same("putRope's text", x.text(0), "abckl");
        Checks.same("putRope leaves the other", x.text(1), "kl");
        Checks.same("putRope of its own", x.putRope(0, 0), 10);
        Checks.same("putRope of its own, text", x.text(0), "abcklabckl");
        Checks.same("putRope's undoing", x.undoes(0, 0), "5-10:");
        Checks.same("putRope of none", x.putRope(0, 2), 10);
        Checks.same("putRope up to 40", x.putRope(0, 0) + x.putRope(0, 0), 60);
        Checks.same("putRope beyond 40", x.putRope(0, 1), -9);
        Checks.same("putRope beyond 40 changes nothing", x.length(0), 40);
        Checks.index("putRope rope 3", () -> x.putRope(3, 0));
        Checks.index("putRope other 3", () -> x.putRope(0, 3));
        Checks.index("putRope other -1", () -> x.putRope(0, -1));
    }

    private static void promise6() {
        Editropes x = with(0, 4);
        Checks.same("insert", x.insert(0, 2, 30, 3), 7);
        Checks.same("insert's text", x.text(0), "ab456cd");
        Checks.same("insert ahead of all", x.insert(0, 0, 36, 2), 9);
        Checks.same("insert behind all", x.insert(0, 9, 25, 1), 10);
        Checks.same("insert of none", x.insert(0, 5, 25, 0), 10);
        Checks.same("insert's texts", x.text(0), "-aab456cdz");
        Checks.same("insert's undoing", x.undoes(0, 2), "0-2:");
        Editropes full = nearlyFull();
        Checks.same("insert beyond 40", full.insert(0, 3, 0, 5), -9);
        Checks.same("insert up to 40", full.insert(0, 3, 0, 4), 40);
        Checks.index("insert rope 3", () -> x.insert(3, 0, 0, 1));
        Checks.index("insert at 11", () -> x.insert(0, 11, 0, 1));
        Checks.index("insert at -1", () -> x.insert(0, -1, 0, 1));
        Checks.index("insert at MAX ahead of word", () -> x.insert(0, MAX, 37, 1));
        Checks.argument("insert first 37", () -> x.insert(0, 0, 37, 1));
        Checks.argument("insert many 7", () -> x.insert(0, 0, 0, 7));
        Checks.argument("no word ahead of REFUSED", () -> full.insert(0, 0, 0, -1));
    }

    private static void promise7() {
        Editropes x = with(0, 2);
        Checks.same("insertNumber", x.insertNumber(0, 1, -25), 5);
        Checks.same("insertNumber's text", x.text(0), "a-25b");
        Checks.same("insertNumber least", x.insertNumber(0, 5, MIN), 16);
        Checks.same("insertNumber least, text", x.text(0), "a-25b-2147483648");
        Checks.same("insertNumber 0", x.insertNumber(0, 0, 0), 17);
        Checks.same("insertNumber 0, text", x.part(0, 0, 2), "0a");
        Editropes full = nearlyFull();
        Checks.same("insertNumber beyond 40", full.insertNumber(0, 3, 10000), -9);
        Checks.same("insertNumber up to 40", full.insertNumber(0, 36, 1000), 40);
        Checks.index("insertNumber rope -1", () -> x.insertNumber(-1, 0, 1));
        Checks.index("insertNumber at 18", () -> x.insertNumber(0, 18, 1));
        Checks.index("insertNumber at -1", () -> x.insertNumber(0, -1, 1));
        Checks.index("no place ahead of REFUSED", () -> full.insertNumber(0, 41, 1));
    }

    private static void promise8() {
        Editropes x = with(0, 2);
        Checks.same("insertSign", x.insertSign(0, 1, 36), 3);
        Checks.same("insertSign ahead", x.insertSign(0, 0, 0), 4);
        Checks.same("insertSign behind", x.insertSign(0, 4, 35), 5);
        Checks.same("insertSign's text", x.text(0), "aa-b9");
        Editropes full = nearlyFull();
        full.put(0, 0, 4);
        Checks.same("insertSign beyond 40", full.insertSign(0, 3, 0), -9);
        Checks.index("insertSign rope 3", () -> x.insertSign(3, 0, 0));
        Checks.index("insertSign at 6", () -> x.insertSign(0, 6, 0));
        Checks.index("insertSign at -1 ahead of sign", () -> x.insertSign(0, -1, 37));
        Checks.argument("insertSign 37", () -> x.insertSign(0, 0, 37));
        Checks.argument("insertSign -1", () -> x.insertSign(0, 0, -1));
    }

    private static void promise9() {
        Editropes x = with(0, 6);
        Checks.same("delete", x.delete(0, 1, 3), 4);
        Checks.same("delete's text", x.text(0), "adef");
        Checks.same("delete's undoing", x.undoes(0, 0), "1-1:bc");
        Checks.same("delete of none", x.delete(0, 4, 4), 4);
        Checks.same("delete of none is an act", x.history(0), 3);
        Checks.index("delete to 5", () -> x.delete(0, 1, 5));
        Checks.index("delete from -1", () -> x.delete(0, -1, 2));
        Checks.index("delete from 5", () -> x.delete(0, 5, 5));
        Checks.index("delete to less than from", () -> x.delete(0, 3, 2));
        Checks.index("delete to MIN", () -> x.delete(0, 0, MIN));
        Checks.index("delete rope 3", () -> x.delete(3, 0, 0));
        Checks.same("delete all", x.delete(0, 0, 4), 0);
    }

    private static void promise10() {
        Editropes x = with(34, 5);
        Checks.same("drop", x.drop(0, 2), 36);
        Checks.same("drop ahead", x.drop(0, 0), 34);
        Checks.same("drop's text", x.text(0), "9ab");
        Checks.same("drop's undoing", x.undoes(0, 1), "2-2:-");
        Checks.index("drop behind the last", () -> x.drop(0, 3));
        Checks.index("drop at -1", () -> x.drop(0, -1));
        Checks.index("drop of an empty one", () -> x.drop(1, 0));
        Checks.index("drop rope 3", () -> x.drop(3, 0));
        Checks.same("drop of the last", x.drop(0, 2), 1);
    }

    private static void promise11() {
        Editropes x = with(0, 3);
        Checks.same("set", x.set(0, 1, 36), 1);
        Checks.same("set again", x.set(0, 1, 26), 36);
        Checks.same("set's text", x.text(0), "a0c");
        Checks.same("set's undoing", x.undoes(0, 0), "1-2:-");
        Checks.same("set the same", x.set(0, 0, 0), 0);
        Checks.same("set the same is an act", x.history(0), 4);
        Editropes full = nearlyFull();
        full.put(0, 0, 4);
        Checks.same("set at 40 signs", full.set(0, 39, 9), 3);
        Checks.index("set behind the last", () -> x.set(0, 3, 0));
        Checks.index("set at -1 ahead of sign", () -> x.set(0, -1, 37));
        Checks.index("set rope -1", () -> x.set(-1, 0, 0));
        Checks.argument("set 37", () -> x.set(0, 0, 37));
        Checks.argument("set -1", () -> x.set(0, 0, -1));
    }

    private static void promise12() {
        Editropes x = with(0, 6);
        Checks.same("replace", x.replace(0, 1, 4, 30, 1), 4);
        Checks.same("replace's text", x.text(0), "a4ef");
        Checks.same("replace's undoing", x.undoes(0, 0), "1-2:bcd");
        Checks.same("replace by more", x.replace(0, 3, 4, 35, 6), 9);
        Checks.same("replace by more, text", x.text(0), "a4e9-abcd");
        Checks.same("replace none by none", x.replace(0, 9, 9, 0, 0), 9);
        Editropes full = nearlyFull();
        Checks.same("replace beyond 40", full.replace(0, 0, 1, 0, 6), -9);
        Checks.same("replace up to 40", full.replace(0, 0, 2, 0, 6), 40);
        Checks.index("replace rope 3", () -> x.replace(3, 0, 0, 0, 0));
        Checks.index("replace to 10", () -> x.replace(0, 0, 10, 0, 0));
        Checks.index("replace from -1", () -> x.replace(0, -1, 0, 0, 0));
        Checks.index("replace to less than from, ahead of word", () -> x.replace(0, 3, 2, 0, 7));
        Checks.argument("replace first 37", () -> x.replace(0, 0, 1, 37, 1));
        Checks.argument("replace many 7", () -> x.replace(0, 0, 1, 0, 7));
    }

    private static void promise13() {
        Editropes x = with(0, 6);
        Checks.same("cut", x.cut(0, 4), 2);
        Checks.same("cut's text", x.text(0), "abcd");
        Checks.same("cut's undoing", x.undoes(0, 0), "4-4:ef");
        Checks.same("cut of none", x.cut(0, 4), 0);
        Checks.same("cut of none is an act", x.history(0), 3);
        Checks.index("cut at 5", () -> x.cut(0, 5));
        Checks.index("cut at -1", () -> x.cut(0, -1));
        Checks.index("cut rope 3", () -> x.cut(3, 0));
        Checks.same("cut of all", x.cut(0, 0), 4);
        Checks.same("cut of all, text", x.text(0), "");
    }

    private static void promise14() {
        Editropes x = with(0, 5);
        Checks.same("reverse", x.reverse(0), 5);
        Checks.same("reverse's text", x.text(0), "edcba");
        Checks.same("reverse's undoing", x.undoes(0, 0), "turn");
        x.putSign(0, 5);
        Checks.same("reverse of six", x.reverse(0), 6);
        Checks.same("reverse of six, text", x.text(0), "fabcde");
        Checks.same("reverse of none", x.reverse(1), 0);
        Checks.same("reverse of none is an act", x.history(1), 1);
        Checks.same("reverse is counted", x.house(2), 5);
        Checks.index("reverse rope 3", () -> x.reverse(3));
        Checks.index("reverse rope -1", () -> x.reverse(-1));
    }

    private static void promise15() {
        Editropes x = with(0, 3);
        x.put(1, 10, 5);
        x.mark(0, 0, 1);
        x.mark(1, 0, 2);
        x.mark(1, 1, 5);
        Checks.same("copy", x.copy(0, 1), 3);
        Checks.same("copy's text", x.text(1), "abc");
        Checks.same("copy leaves the one", x.text(0), "abc");
        Checks.same("copy is one splice", x.undoes(1, 0), "0-3:klmno");
        Checks.same("copy's history", x.history(1), 2);
        Checks.same("copy's inner mark", x.place(1, 0), 0);
        Checks.same("copy's last mark", x.place(1, 1), 3);
        Checks.same("copy takes no marks", x.place(1, 2), -1);
        Checks.same("copy to itself", x.copy(0, 0), 3);
        Checks.same("copy to itself, undoing", x.undoes(0, 0), "0-3:abc");
        Checks.same("copy to itself, mark", x.place(0, 0), 0);
        Checks.same("copy of none", x.copy(2, 1), 0);
        Checks.index("copy rope 3", () -> x.copy(3, 0));
        Checks.index("copy into 3", () -> x.copy(0, 3));
        Checks.index("copy into -1", () -> x.copy(0, -1));
    }

    private static void promise16() {
        Editropes x = with(0, 6);
        x.replace(0, 1, 3, 30, 4);
        x.reverse(0);
        Checks.same("undo of a turn", x.undo(0), 2);
        Checks.same("undo of a turn, text", x.text(0), "a4567def");
        Checks.same("undo of a splice", x.undo(0), 1);
        Checks.same("undo of a splice, text", x.text(0), "abcdef");
        Checks.same("undo counts as an act", x.house(2), 5);
        Checks.same("undo of the last", x.undo(0), 0);
        Checks.same("undo of none", x.undo(0), -9);
        Checks.same("undo of none is counted", x.house(4), 1);
        Checks.same("undo of none is no act", x.house(2), 6);
        Checks.index("undo rope 3", () -> x.undo(3));
        Checks.index("undo rope MIN", () -> x.undo(MIN));
        undoOfTenAlone();
        undoBeyondForty();
        undoUpToForty();
        spliceAfterAnUndoneTurn();
    }

    private static void undoOfTenAlone() {
        Editropes x = new Editropes();
        for (int i = 0; i < 13; i++) {
            x.putSign(0, i);
        }
        Checks.same("history has ten", x.history(0), 10);
        for (int left = 9; left >= 0; left--) {
            Checks.same("undo of ten", x.undo(0), left);
        }
        Checks.same("older ones are forgotten", x.undo(0), -9);
        Checks.same("older ones stay", x.text(0), "abc");
        x.put(0, 20, 2);
        Checks.same("history after that", x.undoes(0, 0), "3-5:");
    }

    private static void undoBeyondForty() {
        Editropes x = nearlyFull();
        for (int i = 0; i < 2; i++) {
            x.add(0, 0, 0, 0, 6);
        }
        x.add(0, 0, 12, 0, 0);
        Checks.same("run beyond 40 between its splices", x.run(0, 0), 36);
        Checks.same("undo beyond 40", x.undo(0), -9);
        Checks.same("undo beyond 40 keeps the history", x.history(0), 9);
        Checks.same("undo beyond 40 is counted", x.house(4), 1);
        x.delete(0, 0, 20);
        Checks.same("undo of what came then", x.undo(0), 9);
        Checks.same("undo beyond 40 once more", x.undo(0), -9);
    }

    private static void undoUpToForty() {
        Editropes x = nearlyFull();
        x.put(0, 0, 4);
        x.cut(0, 3);
        Checks.same("undo up to 40", x.undo(0), 7);
        Checks.same("undo up to 40, length", x.length(0), 40);
    }

    private static void spliceAfterAnUndoneTurn() {
        Editropes x = with(0, 3);
        x.reverse(0);
        x.undo(0);
        x.putSign(0, 9);
        Checks.same("a splice where a turn was undone", x.undoes(0, 0), "3-4:");
        Checks.same("its undo", x.undo(0), 1);
        Checks.same("its undo, text", x.text(0), "abc");
    }

    private static void refusedChangesNothing() {
        Editropes x = nearlyFull();
        x.mark(0, 0, 36);
        String text = x.text(0);
        x.put(0, 0, 5);
        x.insert(0, 0, 0, 6);
        x.replace(0, 0, 0, 0, 6);
        x.putRope(0, 0);
        Checks.same("REFUSED is counted", x.house(4), 4);
        Checks.same("REFUSED leaves the text", x.text(0), text);
        Checks.same("REFUSED leaves the marks", x.place(0, 0), 36);
        Checks.same("REFUSED leaves the history", x.history(0), 6);
        Checks.same("REFUSED is no act", x.house(2), 6);
    }
}
