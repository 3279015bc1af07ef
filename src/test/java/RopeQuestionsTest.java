/** Promises 17 to 30: what is asked of ropes, and marks. */
public final class RopeQuestionsTest {
    private static final int MIN = Integer.MIN_VALUE;
    private static final int MAX = Integer.MAX_VALUE;

    public static void main(String[] args) {
        promises17To20();
        promise21();
        promise22();
        promise23();
        promises24And25();
        promises26And27();
        promise28And29();
        promise30();
        marksAreCarried();
        questionsChangeNothing();
        Checks.end();
    }

    private static void promises17To20() {
        Editropes x = Given.ropes(Given.SIGNS, "");
        Checks.same("length", x.length(0), 37);
        Checks.same("length of none", x.length(1), 0);
        Checks.same("text", x.text(0), Given.SIGNS);
        Checks.same("text of none", x.text(1), "");
        for (int at = 0; at < 37; at++) {
            Checks.same("sign", x.sign(0, at), at);
        }
        Checks.same("part", x.part(0, 24, 28), "yz01");
        Checks.same("part of none", x.part(0, 37, 37), "");
        Checks.same("part of all", x.part(0, 0, 37), Given.SIGNS);
        Checks.index("length rope 3", () -> x.length(3));
        Checks.index("length rope -1", () -> x.length(-1));
        Checks.index("text rope 3", () -> x.text(3));
        Checks.index("text rope MIN", () -> x.text(MIN));
        Checks.index("sign rope 3", () -> x.sign(3, 0));
        Checks.index("sign at 37", () -> x.sign(0, 37));
        Checks.index("sign at -1", () -> x.sign(0, -1));
        Checks.index("sign of none", () -> x.sign(1, 0));
        Checks.index("part rope -1", () -> x.part(-1, 0, 0));
        Checks.index("part from -1", () -> x.part(0, -1, 0));
        Checks.index("part to 38", () -> x.part(0, 0, 38));
        Checks.index("part to less than from", () -> x.part(0, 5, 4));
    }

    private static void promise21() {
        Editropes x = Given.ropes("abcabcab", "");
        Checks.same("find", x.find(0, 0, 2, 0), 0);
        Checks.same("find from 1", x.find(0, 0, 2, 1), 3);
        Checks.same("find from 3", x.find(0, 0, 2, 3), 3);
        Checks.same("find at the end", x.find(0, 0, 2, 4), 6);
        Checks.same("find no more", x.find(0, 0, 2, 7), -1);
        Checks.same("find beyond the end", x.find(0, 0, 3, 6), -1);
        Checks.same("find of none there", x.find(0, 5, 1, 0), -1);
        Checks.same("find of no signs", x.find(0, 5, 0, 4), 4);
        Checks.same("find of no signs at the end", x.find(0, 5, 0, 8), 8);
        Checks.same("find in none", x.find(1, 0, 1, 0), -1);
        Checks.same("find of no signs in none", x.find(1, 0, 0, 0), 0);
        Checks.index("find rope 3", () -> x.find(3, 0, 1, 0));
        Checks.index("find from 9", () -> x.find(0, 0, 1, 9));
        Checks.index("find from -1 ahead of word", () -> x.find(0, 37, 1, -1));
        Checks.argument("find first 37", () -> x.find(0, 37, 1, 0));
        Checks.argument("find many 7", () -> x.find(0, 0, 7, 0));
        Checks.argument("find many -1", () -> x.find(0, 0, -1, 0));
    }

    private static void promise22() {
        Editropes x = Given.ropes("abcabcab", "");
        Checks.same("findLast", x.findLast(0, 0, 2, 8), 6);
        Checks.same("findLast up to that place", x.findLast(0, 0, 2, 6), 6);
        Checks.same("findLast from 5", x.findLast(0, 0, 2, 5), 3);
        Checks.same("findLast over that place", x.findLast(0, 0, 3, 3), 3);
        Checks.same("findLast at 0", x.findLast(0, 0, 2, 2), 0);
        Checks.same("findLast of 0 itself", x.findLast(0, 0, 2, 0), 0);
        Checks.same("findLast no more", x.findLast(0, 1, 2, 0), -1);
        Checks.same("findLast of none there", x.findLast(0, 5, 1, 8), -1);
        Checks.same("findLast of no signs", x.findLast(0, 5, 0, 4), 4);
        Checks.same("findLast of no signs at the end", x.findLast(0, 5, 0, 8), 8);
        Checks.same("findLast in none", x.findLast(1, 0, 1, 0), -1);
        Checks.same("findLast longer than the rope", x.findLast(1, 0, 6, 0), -1);
        Checks.index("findLast rope -1", () -> x.findLast(-1, 0, 1, 0));
        Checks.index("findLast from 9", () -> x.findLast(0, 0, 1, 9));
        Checks.index("findLast from MIN", () -> x.findLast(0, 0, 1, MIN));
        Checks.argument("findLast first -1", () -> x.findLast(0, -1, 1, 0));
        Checks.argument("findLast many 7", () -> x.findLast(0, 0, 7, 0));
    }

    private static void order(String ahead, String behind) {
        Editropes x = Given.ropes(ahead, behind);
        Checks.same(ahead + " to " + behind, x.compare(0, 1), -1);
        Checks.same(behind + " to " + ahead, x.compare(1, 0), 1);
        Checks.same(ahead + " to itself", x.compare(0, 0), 0);
    }

    private static void promise23() {
        order("-", "0");
        order("0", "9");
        order("9", "a");
        order("a", "z");
        order("-", "a");
        order("ab", "abc");
        order("", "-");
        order("ab9zz", "aba");
        order("zz", "zza");
        Editropes x = Given.ropes("a-9", "a-9");
        Checks.same("compare the same", x.compare(0, 1), 0);
        Checks.same("compare none to none", x.compare(2, 2), 0);
        Checks.index("compare rope 3", () -> x.compare(3, 0));
        Checks.index("compare other 3", () -> x.compare(0, 3));
        Checks.index("compare other -1", () -> x.compare(0, -1));
    }

    private static void number(String text, boolean isOne, int due) {
        Editropes x = Given.ropes(text, "");
        Checks.same("isNumber " + text, x.isNumber(0), isOne);
        Checks.same("number " + text, x.number(0), due);
    }

    private static void promises24And25() {
        number("0", true, 0);
        number("-0", true, 0);
        number("7", true, 7);
        number("-7", true, -7);
        number("1234567890", true, 1234567890);
        number("2147483647", true, MAX);
        number("2147483648", false, 0);
        number("-2147483648", true, MIN);
        number("-2147483649", false, 0);
        number("9999999999", false, 0);
        number("10000000000", false, 0);
        number("00000000000000000000000000000000000012", true, 12);
        number("-0002147483648", true, MIN);
        number("9999999999999999999999999999999999999999", false, 0);
        number("-999999999999999999999999999999999999999", false, 0);
        number("18446744073709551617", false, 0);
        number("4294967296", false, 0);
        number("", false, 0);
        number("-", false, 0);
        number("--1", false, 0);
        number("1-", false, 0);
        number("1a", false, 0);
        number("a1", false, 0);
        number("z", false, 0);
        number("1-2", false, 0);
        Editropes x = Given.ropes("-5", "");
        x.cut(0, 0);
        Checks.same("isNumber when all have gone", x.isNumber(0), false);
        Checks.index("number rope 3", () -> x.number(3));
        Checks.index("number rope -1", () -> x.number(-1));
        Checks.index("isNumber rope 3", () -> x.isNumber(3));
        Checks.index("isNumber rope -1", () -> x.isNumber(-1));
    }

    private static void promises26And27() {
        Editropes x = Given.ropes("abc", "");
        Checks.same("history", x.history(0), 3);
        Checks.same("history of none", x.history(1), 0);
        x.reverse(0);
        x.replace(0, 0, 2, 9, 1);
        Checks.same("undoes 0", x.undoes(0, 0), "0-1:cb");
        Checks.same("undoes 1", x.undoes(0, 1), "turn");
        Checks.same("undoes 2", x.undoes(0, 2), "2-3:");
        Checks.same("undoes 4", x.undoes(0, 4), "0-1:");
        Checks.same("undoes 5", x.undoes(0, 5), "-");
        Checks.same("undoes -1", x.undoes(0, -1), "-");
        Checks.same("undoes MAX", x.undoes(0, MAX), "-");
        Checks.same("undoes MIN", x.undoes(0, MIN), "-");
        for (int i = 0; i < 10; i++) {
            x.put(0, 0, 0);
        }
        Checks.same("history of ten at most", x.history(0), 10);
        Checks.same("undoes 9 then", x.undoes(0, 9), "2-2:");
        Checks.same("undoes 10 then", x.undoes(0, 10), "-");
        x.undo(0);
        Checks.same("nothing comes by undo", x.history(0), 9);
        Checks.same("the history of others stays", x.history(2), 0);
        Checks.index("history rope 3", () -> x.history(3));
        Checks.index("history rope -1", () -> x.history(-1));
        Checks.index("undoes rope 3", () -> x.undoes(3, 0));
        Checks.index("undoes rope -1", () -> x.undoes(-1, -1));
    }

    private static void promise28And29() {
        Editropes x = Given.ropes("abcd", "");
        Checks.same("mark", x.mark(0, 0, 4), -1);
        Checks.same("mark again", x.mark(0, 0, 0), 4);
        Checks.same("place", x.place(0, 0), 0);
        Checks.same("place of another one", x.place(0, 1), -1);
        Checks.same("place of another rope's", x.place(1, 0), -1);
        Checks.same("mark to NONE", x.mark(0, 0, -1), 0);
        Checks.same("place of NONE", x.place(0, 0), -1);
        Checks.same("mark in none", x.mark(1, 3, 0), -1);
        Checks.same("a mark is no act", x.house(2), 4);
        Checks.same("a mark comes to no history", x.history(0), 4);
        Checks.index("mark rope 3", () -> x.mark(3, 0, 0));
        Checks.index("mark 4 ahead of place", () -> x.mark(0, 4, 9));
        Checks.index("mark -1", () -> x.mark(0, -1, 0));
        Checks.argument("mark place 5", () -> x.mark(0, 0, 5));
        Checks.argument("mark place -2", () -> x.mark(0, 0, -2));
        Checks.argument("mark place MAX", () -> x.mark(0, 0, MAX));
        Checks.index("place rope -1", () -> x.place(-1, 0));
        Checks.index("place mark 4", () -> x.place(0, 4));
        Checks.index("place mark -1", () -> x.place(0, -1));
    }

    private static void promise30() {
        Editropes x = Given.ropes("abcdef", "");
        x.mark(0, 0, 1);
        x.mark(0, 1, 4);
        Checks.same("span", x.span(0, 0, 1), "bcd");
        Checks.same("span the other way", x.span(0, 1, 0), "bcd");
        Checks.same("span of one place", x.span(0, 1, 1), "");
        Checks.same("span to NONE", x.span(0, 0, 2), "");
        Checks.same("span from NONE", x.span(0, 3, 0), "");
        Checks.same("span of NONE", x.span(0, 3, 3), "");
        x.mark(0, 2, 6);
        x.mark(0, 3, 0);
        Checks.same("span of all", x.span(0, 2, 3), "abcdef");
        Checks.index("span rope 3", () -> x.span(3, 0, 0));
        Checks.index("span mark 4", () -> x.span(0, 4, 0));
        Checks.index("span other 4", () -> x.span(0, 0, 4));
        Checks.index("span other -1", () -> x.span(0, 0, -1));
    }

    private static void carried(int from, int to, int many, int mark, int due) {
        Editropes x = Given.ropes("abcdefgh", "");
        x.mark(0, 2, mark);
        x.replace(0, from, to, 0, many);
        Checks.same("mark " + mark + " by " + from + "-" + to + " of " + many, x.place(0, 2), due);
    }

    private static void marksAreCarried() {
        carried(3, 3, 2, 3, 3);
        carried(3, 3, 2, 2, 2);
        carried(3, 3, 2, 4, 6);
        carried(2, 5, 1, 2, 2);
        carried(2, 5, 1, 3, 2);
        carried(2, 5, 1, 4, 2);
        carried(2, 5, 1, 5, 3);
        carried(2, 5, 6, 4, 2);
        carried(2, 5, 6, 8, 11);
        carried(0, 8, 0, 8, 0);
        carried(0, 8, 0, 0, 0);
        carried(0, 0, 3, -1, -1);
        Editropes x = Given.ropes("abcdef", "");
        x.mark(0, 0, 0);
        x.mark(0, 1, 2);
        x.mark(0, 2, 6);
        x.reverse(0);
        Checks.same("mark 0 turned", x.place(0, 0), 6);
        Checks.same("mark 2 turned", x.place(0, 1), 4);
        Checks.same("mark 6 turned", x.place(0, 2), 0);
        Checks.same("NONE turned", x.place(0, 3), -1);
        x.delete(0, 1, 5);
        x.undo(0);
        Checks.same("undo carries a mark, too", x.place(0, 1), 1);
        Checks.same("undo carries the last mark", x.place(0, 0), 6);
        x.undo(0);
        Checks.same("undo turns a mark", x.place(0, 1), 5);
        x.add(0, 0, 0, 0, 2);
        x.add(0, 1, 4, 0, 0);
        x.mark(0, 3, 3);
        x.run(0, 0);
        Checks.same("run carries a mark by each splice", x.place(0, 3), 2);
    }

    private static void questionsChangeNothing() {
        Editropes x = Given.ropes("abcabc", "12");
        x.mark(0, 0, 2);
        long digest = x.digest();
        x.find(0, 0, 2, 1);
        x.findLast(0, 0, 2, 1);
        x.text(0);
        x.part(0, 1, 4);
        x.compare(0, 1);
        x.number(1);
        x.isNumber(1);
        x.undoes(0, 0);
        x.undoes(0, 99);
        x.span(0, 0, 1);
        x.makes(0, 0);
        x.fits(0, 0);
        x.least(0, 1);
        x.isSound();
        x.told(0);
        Checks.same("questions change nothing", x.digest(), digest);
    }
}
