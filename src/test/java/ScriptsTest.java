/** Promises 31 to 44: scripts, and least. */
public final class ScriptsTest {
    private static final int MIN = Integer.MIN_VALUE;
    private static final int MAX = Integer.MAX_VALUE;

    public static void main(String[] args) {
        promise31();
        promise32();
        promise33();
        promise34();
        promises35And36();
        promise37();
        promise38();
        promise39();
        promise40();
        promise41();
        promise42();
        promise43();
        promise44();
        Checks.end();
    }

    private static Editropes withFull(int script) {
        Editropes x = new Editropes();
        for (int i = 0; i < 8; i++) {
            x.add(script, 0, 0, i, 1);
        }
        return x;
    }

    private static void promise31() {
        Editropes x = new Editropes();
        Checks.same("add", x.add(0, 2, 4, 35, 3), 1);
        Checks.same("add again", x.add(0, 0, 40, 0, 0), 2);
        Checks.same("add at 40", x.add(0, 40, 40, 0, 6), 3);
        Checks.same("add's text", x.told(0), "2-4:9-a 0-40: 40-40:abcdef");
        Checks.same("other scripts stay", x.told(1), "");
        Editropes full = withFull(3);
        Checks.same("add with 8", full.add(3, 0, 0, 0, 1), -9);
        Checks.same("add with 8 changes nothing", full.ofScript(3, 0), 8);
        Checks.same("add with 8 is counted", full.house(4), 1);
        Checks.index("add script 4", () -> x.add(4, 0, 0, 0, 0));
        Checks.index("add script -1 ahead of the rest", () -> x.add(-1, 41, 0, 37, 7));
        Checks.argument("add from -1", () -> x.add(0, -1, 0, 0, 0));
        Checks.argument("add to 41", () -> x.add(0, 0, 41, 0, 0));
        Checks.argument("add both 41", () -> x.add(0, 41, 41, 0, 0));
        Checks.argument("add to less than from", () -> x.add(0, 3, 2, 0, 0));
        Checks.argument("add to MAX", () -> x.add(0, 0, MAX, 0, 0));
        Checks.argument("add first 37", () -> x.add(0, 0, 0, 37, 0));
        Checks.argument("add many 7", () -> x.add(0, 0, 0, 0, 7));
        Checks.argument("no splice ahead of REFUSED", () -> full.add(3, 3, 2, 0, 0));
        Checks.argument("no word ahead of REFUSED", () -> full.add(3, 0, 0, 0, 7));
    }

    private static void promise32() {
        Editropes x = withFull(1);
        Checks.same("less", x.less(1, 3), 5);
        Checks.same("less's text", x.told(1), "0-0:a 0-0:b 0-0:c 0-0:d 0-0:e");
        Checks.same("less of one", x.less(1, 1), 4);
        Checks.same("less of more than there are", x.less(1, 8), 0);
        Checks.same("less of none", x.less(1, 1), 0);
        Checks.same("less is never REFUSED", x.house(4), 0);
        Checks.index("less script 4", () -> x.less(4, 1));
        Checks.index("less script -1 ahead of many", () -> x.less(-1, 0));
        Checks.argument("less many 0", () -> x.less(1, 0));
        Checks.argument("less many 9", () -> x.less(1, 9));
        Checks.argument("less many MIN", () -> x.less(1, MIN));
    }

    private static void promise33() {
        Editropes x = new Editropes();
        Checks.same("told of none", x.told(2), "");
        x.add(2, 10, 12, 26, 2);
        Checks.same("told of one", x.told(2), "10-12:01");
        x.add(2, 0, 0, 0, 0);
        Checks.same("told of two", x.told(2), "10-12:01 0-0:");
        Checks.index("told script 4", () -> x.told(4));
        Checks.index("told script -1", () -> x.told(-1));
    }

    private static void promise34() {
        Editropes x = new Editropes();
        x.add(0, 1, 5, 0, 1);
        x.add(0, 30, 40, 0, 6);
        x.add(0, 0, 0, 0, 2);
        int[] due = {3, -5, 14, 9};
        for (int what = 0; what < 4; what++) {
            Checks.same("ofScript " + what, x.ofScript(0, what), due[what]);
            Checks.same("ofScript of none " + what, x.ofScript(3, what), 0);
        }
        Checks.index("ofScript script 4", () -> x.ofScript(4, 0));
        Checks.index("ofScript script -1 ahead of what", () -> x.ofScript(-1, 4));
        Checks.argument("ofScript what 4", () -> x.ofScript(0, 4));
        Checks.argument("ofScript what -1", () -> x.ofScript(0, -1));
    }

    private static void promises35And36() {
        Editropes x = Given.ropes("abcdef");
        Checks.same("no splices fit", x.fits(0, 0), true);
        Checks.same("no splices make the same", x.makes(0, 0), "abcdef");
        x.add(0, 4, 6, 26, 3);
        x.add(0, 7, 7, 35, 1);
        Checks.same("places are those of what was made", x.makes(0, 0), "abcd0129");
        Checks.same("fits", x.fits(0, 0), true);
        Checks.same("makes changes nothing", x.text(0), "abcdef");
        Checks.same("does not fit a shorter one", x.fits(0, 1), false);
        Checks.same("makes of a shorter one", x.makes(0, 1), "!");
        Checks.same("makes counts no REFUSED", x.house(4), 0);
        x.add(0, 8, 8, 35, 2);
        x.add(0, 8, 11, 35, 1);
        Checks.same("to beyond what was made", x.makes(0, 0), "!");
        x.less(0, 1);
        Checks.same("to at the end of what was made", x.makes(0, 0), "abcd01299-");
        Editropes y = Given.ropes(Given.digits(40));
        y.add(0, 0, 0, 0, 1);
        Checks.same("41 in the end", y.fits(0, 0), false);
        Checks.same("makes of 41", y.makes(0, 0), "!");
        y.add(0, 40, 40, 0, 1);
        y.add(0, 20, 22, 0, 0);
        Checks.same("more than 40 between splices", y.fits(0, 0), true);
        Checks.same("makes of 40", y.makes(0, 0).length(), 40);
        Checks.index("fits script 4", () -> x.fits(4, 0));
        Checks.index("fits rope 3", () -> x.fits(0, 3));
        Checks.index("fits script -1", () -> x.fits(-1, 0));
        Checks.index("makes script 4", () -> x.makes(4, 0));
        Checks.index("makes rope 3", () -> x.makes(0, 3));
        Checks.index("makes rope -1", () -> x.makes(0, -1));
    }

    private static void promise37() {
        Editropes x = Given.ropes("abcdef");
        x.add(0, 4, 6, 26, 3);
        x.add(0, 0, 2, 36, 1);
        Checks.same("run", x.run(0, 0), 6);
        Checks.same("run's text", x.text(0), "-cd012");
        Checks.same("each splice comes to the history", x.history(0), 8);
        Checks.same("the last splice's undoing", x.undoes(0, 0), "0-1:ab");
        Checks.same("the first splice's undoing", x.undoes(0, 1), "4-7:ef");
        Checks.same("each splice is counted", x.house(2), 8);
        Checks.same("run of no splices", x.run(1, 0), 6);
        Checks.same("run of no splices is no act", x.history(0), 8);
        Checks.same("run without a fit", x.run(0, 1), -9);
        Checks.same("run without a fit is counted", x.house(4), 1);
        x.add(2, 0, 1, 0, 0);
        x.add(2, 6, 6, 0, 1);
        Checks.same("run that fits at first alone", x.run(2, 0), -9);
        Checks.same("then nothing changes", x.text(0), "-cd012");
        Checks.same("then nothing comes to the history", x.history(0), 8);
        Checks.same("the script stays", x.told(0), "4-6:012 0-2:-");
        for (int i = 0; i < 3; i++) {
            x.undo(0);
        }
        Checks.same("run undone", x.text(0), "abcde");
        Checks.index("run script 4", () -> x.run(4, 0));
        Checks.index("run rope 3", () -> x.run(0, 3));
        Checks.index("run rope -1", () -> x.run(0, -1));
    }

    private static void promise38() {
        Editropes x = new Editropes();
        x.add(0, 0, 0, 0, 1);
        x.add(1, 1, 2, 1, 1);
        x.add(1, 3, 4, 2, 1);
        Checks.same("compose", x.compose(0, 1, 2), 3);
        Checks.same("compose's text", x.told(2), "0-0:a 1-2:b 3-4:c");
        Checks.same("compose the other way", x.compose(1, 0, 3), 3);
        Checks.same("compose the other way, text", x.told(3), "1-2:b 3-4:c 0-0:a");
        Checks.same("compose to the other one", x.compose(0, 1, 1), 3);
        Checks.same("compose to the other one, text", x.told(1), "0-0:a 1-2:b 3-4:c");
        Checks.same("compose to the one", x.compose(0, 1, 0), 4);
        Checks.same("compose to the one, text", x.told(0), "0-0:a 0-0:a 1-2:b 3-4:c");
        Checks.same("compose with itself", x.compose(0, 0, 0), 8);
        Checks.same("compose beyond 8", x.compose(0, 1, 2), -9);
        Checks.same("compose beyond 8 changes nothing", x.told(2), "0-0:a 1-2:b 3-4:c");
        Checks.same("compose beyond 8 is counted", x.house(4), 1);
        x.less(3, 8);
        Checks.same("compose with none at 8", x.compose(3, 0, 2), 8);
        Checks.same("compose of none and none", x.compose(3, 3, 2), 0);
        Checks.index("compose script 4", () -> x.compose(4, 0, 0));
        Checks.index("compose other 4", () -> x.compose(0, 4, 0));
        Checks.index("compose into 4", () -> x.compose(0, 0, 4));
        Checks.index("compose into -1", () -> x.compose(0, 0, -1));
        x.add(2, 0, 0, 5, 1);
        Checks.same("what came to one does not come to the other one", x.ofScript(0, 0), 8);
    }

    private static void promise39() {
        Editropes x = Given.ropes("abcdef");
        x.add(0, 1, 3, 26, 3);
        x.add(0, 4, 7, 0, 0);
        x.add(0, 0, 0, 36, 1);
        Checks.same("makes", x.makes(0, 0), "-a012");
        Checks.same("invert", x.invert(0, 0, 1), 3);
        Checks.same("invert's text", x.told(1), "0-1: 4-4:def 1-4:bc");
        Checks.same("invert leaves the one", x.told(0), "1-3:012 4-7: 0-0:-");
        x.compose(0, 1, 2);
        Checks.same("the inverse makes what was there", x.makes(2, 0), "abcdef");
        Checks.same("invert to itself", x.invert(0, 0, 0), 3);
        Checks.same("invert to itself, text", x.told(0), "0-1: 4-4:def 1-4:bc");
        Checks.same("invert of none", x.invert(3, 1, 2), 0);
        Checks.same("invert without a fit", x.invert(1, 1, 2), -9);
        Checks.same("invert without a fit is counted", x.house(4), 1);
        Checks.same("invert changes no rope", x.text(0), "abcdef");
        Checks.index("invert script 4", () -> x.invert(4, 0, 0));
        Checks.index("invert rope 3", () -> x.invert(0, 3, 0));
        Checks.index("invert into 4", () -> x.invert(0, 0, 4));
        Checks.index("invert into -1", () -> x.invert(0, 0, -1));
    }

    private static void promise40() {
        Editropes x = Given.ropes("abcdef");
        x.add(0, 1, 3, 26, 3);
        x.add(0, 5, 7, 0, 0);
        x.add(0, 0, 0, 30, 2);
        Checks.same("makes", x.makes(0, 0), "45a012d");
        Checks.same("mirror", x.mirror(0, 0, 1), 3);
        Checks.same("mirror's text", x.told(1), "3-5:210 0-2: 5-5:54");
        x.reverse(0);
        Checks.same("mirror makes it turned round", x.makes(1, 0), "d210a54");
        x.reverse(0);
        Checks.same("mirror to itself", x.mirror(0, 0, 0), 3);
        Checks.same("mirror to itself, text", x.told(0), "3-5:210 0-2: 5-5:54");
        Checks.same("mirror of none", x.mirror(3, 1, 2), 0);
        Checks.same("mirror without a fit", x.mirror(0, 1, 2), -9);
        Checks.same("mirror without a fit is counted", x.house(4), 1);
        Checks.index("mirror script 4", () -> x.mirror(4, 0, 0));
        Checks.index("mirror rope 3", () -> x.mirror(0, 3, 0));
        Checks.index("mirror into 4", () -> x.mirror(0, 0, 4));
        Checks.index("mirror script -1", () -> x.mirror(-1, 0, 0));
    }

    /** Two neighbours of a script, and what they are told as when they have changed places ("" if they can't). */
    private static void neighbours(int f, int t, int x, int g, int u, int y, String due) {
        Editropes ropes = new Editropes();
        ropes.add(0, f, t, 0, x);
        ropes.add(0, g, u, 10, y);
        String before = ropes.told(0);
        Checks.same("swap of " + before, ropes.swap(0, 0), due.isEmpty() ? -9 : 1);
        Checks.same("swap's text of " + before, ropes.told(0), due.isEmpty() ? before : due);
        Checks.same("swap of " + before + " is counted", ropes.house(4), due.isEmpty() ? 1 : 0);
    }

    private static void promise41() {
        neighbours(5, 7, 1, 2, 4, 6, "2-4:klmnop 9-11:a");
        neighbours(5, 7, 1, 2, 5, 0, "");
        neighbours(5, 7, 3, 5, 5, 1, "");
        neighbours(5, 7, 3, 8, 9, 1, "");
        neighbours(5, 7, 3, 9, 9, 1, "8-8:k 5-7:abc");
        neighbours(0, 10, 0, 1, 1, 2, "11-11:kl 0-10:");
        neighbours(0, 0, 0, 0, 0, 0, "");
        neighbours(3, 3, 0, 0, 2, 0, "0-2: 1-1:");
        Editropes x = Given.ropes("abcdefgh");
        x.add(0, 6, 7, 10, 3);
        x.add(0, 2, 4, 20, 1);
        x.add(0, 8, 8, 30, 1);
        String made = x.makes(0, 0);
        Checks.same("swap of the second one", x.swap(0, 1), 1);
        Checks.same("swap of the second one makes the same", x.makes(0, 0), made);
        Checks.same("swap of the second one, text", x.told(0), "6-7:klm 9-9:4 2-4:u");
        Checks.index("swap script 4", () -> x.swap(4, 0));
        Checks.index("swap script -1", () -> x.swap(-1, 0));
        Checks.index("swap of the last", () -> x.swap(0, 2));
        Checks.index("swap of -1", () -> x.swap(0, -1));
        Checks.index("swap of MAX", () -> x.swap(0, MAX));
        Checks.index("swap of MIN", () -> x.swap(0, MIN));
        Checks.index("swap of none", () -> x.swap(1, 0));
        beyondForty();
    }

    /** Each round moves the splice that is kept by 40 more. */
    private static void beyondForty() {
        Editropes x = new Editropes();
        x.add(0, 0, 40, 0, 0);
        x.add(1, 1, 1, 0, 1);
        for (int round = 1; round <= 160; round++) {
            x.compose(0, 1, 1);
            x.swap(1, 0);
            x.less(1, 1);
        }
        Checks.same("places far beyond 40", x.told(1), "6401-6401:a");
        Checks.same("they fit no rope", x.fits(1, 0), false);
        Checks.same("then all is sound", x.isSound(), true);
    }

    private static void promise42() {
        Editropes x = Given.ropes("abcdefghijkl");
        x.add(0, 2, 4, 20, 5);
        x.add(0, 9, 10, 0, 0);
        x.add(1, 8, 9, 30, 1);
        x.add(1, 0, 1, 36, 1);
        Checks.same("join", x.join(0, 1, 2), 4);
        Checks.same("join's text", x.told(2), "2-4:uvwxy 9-10: 10-11:4 0-1:-");
        Checks.same("join leaves a", x.told(0), "2-4:uvwxy 9-10:");
        Checks.same("join the other way", x.join(1, 0, 3), 4);
        Checks.same("both make the same", x.makes(2, 0), x.makes(3, 0));
        Checks.same("join to the other one", x.join(0, 1, 1), 4);
        Checks.same("join to the other one, text", x.told(1), "2-4:uvwxy 9-10: 10-11:4 0-1:-");
        laterSplicesMeetMovedOnes();
        apart(0, 2, 3, 5, true);
        apart(0, 2, 2, 5, false);
        apart(3, 5, 0, 2, true);
        apart(3, 5, 0, 3, false);
        apart(3, 3, 3, 3, false);
        joinLimits();
    }

    private static void laterSplicesMeetMovedOnes() {
        Editropes x = Given.ropes("abcdefghij");
        x.add(0, 5, 6, 26, 1);
        x.add(1, 0, 0, 0, 4);
        x.add(1, 8, 8, 10, 2);
        Checks.same("b's second one is apart from a as it stood before alone", x.join(0, 1, 2), 3);
        Checks.same("join's text", x.told(2), "5-6:0 0-0:abcd 8-8:kl");
        x.less(1, 1);
        x.add(1, 9, 9, 10, 2);
        Checks.same("b's second one is not apart from a as it stands", x.join(0, 1, 2), -9);
        Checks.same("REFUSED leaves the script", x.told(2), "5-6:0 0-0:abcd 8-8:kl");
        x.less(1, 1);
        x.add(1, 11, 11, 10, 2);
        Checks.same("join behind a as it stands", x.join(0, 1, 0), 3);
        Checks.same("join to the one", x.told(0), "5-6:0 0-0:abcd 11-11:kl");
    }

    private static void apart(int from, int to, int otherFrom, int otherTo, boolean are) {
        Editropes x = new Editropes();
        x.add(0, from, to, 0, 1);
        x.add(1, otherFrom, otherTo, 0, 2);
        String what = "join of " + x.told(0) + " and " + x.told(1);
        Checks.same(what, x.join(0, 1, 2), are ? 2 : -9);
        Checks.same(what + " is counted", x.house(4), are ? 0 : 1);
    }

    private static void joinLimits() {
        Editropes x = new Editropes();
        for (int i = 0; i < 4; i++) {
            x.add(0, 0, 0, 0, 1);
            x.add(1, 20, 20, 0, 1);
        }
        Checks.same("join of 8", x.join(0, 1, 2), 8);
        x.add(0, 0, 0, 0, 1);
        Checks.same("join beyond 8", x.join(0, 1, 2), -9);
        Checks.same("join with none", x.join(0, 3, 2), 5);
        Checks.same("join of none", x.join(3, 0, 2), 5);
        Checks.index("join script 4", () -> x.join(4, 0, 0));
        Checks.index("join other 4", () -> x.join(0, 4, 0));
        Checks.index("join into 4 ahead of the same", () -> x.join(0, 0, 4));
        Checks.index("join both 4", () -> x.join(4, 4, 0));
        Checks.argument("join of the same", () -> x.join(0, 0, 1));
        Checks.argument("join of the same, both empty", () -> x.join(3, 3, 1));
    }

    private static void between(String one, String other, String due, int least) {
        Editropes x = Given.ropes(one, other);
        String what = "between " + one + " and " + other;
        int splices = due.isEmpty() ? 0 : due.split(" ").length;
        Checks.same(what, x.between(0, 1, 3), splices);
        Checks.same(what + ", text", x.told(3), due);
        Checks.same(what + ", made", x.makes(3, 0), other);
        Checks.same(what + ", least", x.least(0, 1), least);
        Checks.same(what + ", least the other way", x.least(1, 0), least);
        Checks.same(what + ", just so many", x.ofScript(3, 2) + x.ofScript(3, 3), least);
    }

    private static void promise43() {
        between("", "", "", 0);
        between("abc", "abc", "", 0);
        between("abc", "", "0-3:", 3);
        between("", "abc", "0-0:abc", 3);
        between("abc", "abcde", "3-3:de", 2);
        between("abcde", "abc", "3-5:", 2);
        between("ab", "ba", "0-1: 1-1:a", 2);
        between("abcd", "axcy", "1-2:x 3-4:y", 4);
        between("01", "135", "0-1: 1-1:35", 3);
        between("abcabba", "cbabac", "0-2: 1-2: 2-2:a 5-5:c", 5);
        Editropes x = new Editropes();
        for (int i = 0; i < 9; i++) {
            x.put(0, 0, 2);
            x.put(1, 0, 1);
        }
        Checks.same("between beyond 8", x.between(0, 1, 0), -9);
        Checks.same("between beyond 8 changes nothing", x.told(0), "");
        Checks.same("between beyond 8 is counted", x.house(4), 1);
        x.drop(0, 17);
        Checks.same("between of 8", x.between(0, 1, 0), 8);
        Checks.index("between rope 3", () -> x.between(3, 0, 0));
        Checks.index("between other 3", () -> x.between(0, 3, 0));
        Checks.index("between into 4", () -> x.between(0, 0, 4));
        Checks.index("between into -1", () -> x.between(0, 0, -1));
    }

    private static void promise44() {
        Editropes x = Given.ropes(Given.digits(40), "a".repeat(40));
        Checks.same("least of all", x.least(0, 1), 80);
        Checks.same("least to none", x.least(0, 2), 40);
        Checks.same("least from none", x.least(2, 1), 40);
        Checks.same("least of none", x.least(2, 2), 0);
        Checks.same("least of the same", x.least(0, 0), 0);
        Checks.same("between of all", x.between(0, 1, 0), 1);
        Checks.same("between of all runs", x.run(0, 0), 40);
        Checks.same("then both are alike", x.compare(0, 1), 0);
        Checks.index("least rope 3", () -> x.least(3, 0));
        Checks.index("least other 3", () -> x.least(0, 3));
        Checks.index("least rope -1", () -> x.least(-1, 0));
    }
}
