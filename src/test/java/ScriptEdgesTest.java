import java.math.BigInteger;
import java.util.function.Supplier;

/** Each sentence of parts 3 and 4 of the document, and of promises 31 to 48, that names an edge. */
public final class ScriptEdgesTest {
    private static final String INDEX = "throws.IndexOutOfBoundsException";
    private static final String ARGUMENT = "throws.IllegalArgumentException";

    public static void main(String[] args) {
        scriptsHoldEight();
        exceptionsGoAheadOfRefused();
        addTakesPlacesUpToForty();
        lessTakesWhatThereIs();
        toldWithBlanksBetween();
        whatIsCountedOfAScript();
        scriptsFindTheirPlaces();
        fortySignsInTheEnd();
        twoHundredSignsBetween();
        placesBeyondForty();
        runsOfNone();
        runsThatDoNotFit();
        runComesToTheHistory();
        composedUpToEight();
        composedOfItself();
        inverses();
        mirrors();
        neighbours();
        neighboursOfEight();
        joinedOfNone();
        joinedUpToEight();
        joinedIfApart();
        joinedIntoOneOfBoth();
        betweenEmptyAndAlike();
        betweenUpToEight();
        betweenByLeast();
        leastOfTwo();
        house();
        knocks();
        soundAtTheEdges();
        digestWrapsAround();
        Checks.end();
    }

    private static Editropes scripts(String... told) {
        Editropes x = new Editropes();
        for (int s = 0; s < told.length; s++) {
            if (!told[s].isEmpty()) {
                Given.splices(x, s, told[s]);
            }
        }
        return x;
    }

    private static String times(String splice, int many) {
        return (splice + " ").repeat(many).trim();
    }

    /** Rope 0 has 40 signs, and script 0 brings four times 40 more before they go again. */
    private static Editropes deep() {
        Editropes x = Given.ropes(Given.digits(40), "", "abcdefghijklmnopqrstuvwxyz-" + Given.digits(10) + "zyx");
        x.between(1, 2, 0);
        x.compose(0, 0, 0);
        x.compose(0, 0, 0);
        x.between(2, 1, 1);
        x.compose(1, 1, 1);
        x.compose(1, 1, 1);
        x.compose(0, 1, 0);
        return x;
    }

    /** "SCRIPTS 0 to 3: rows of SPLICES, at most 8 (none at first)", "REFUSED with 8" */
    private static void scriptsHoldEight() {
        for (int s = 0; s < 4; s++) {
            int script = s;
            Editropes x = new Editropes();
            Checks.same("none at first", x.ofScript(script, 0), 0);
            for (int many = 1; many <= 8; many++) {
                Checks.same("splice " + many + " of script " + script, x.add(script, many, many, many, 1), many);
            }
            Checks.refused("a splice more", x, () -> x.add(script, 0, 0, 0, 0));
            Checks.same("the others stay empty", x.house(1), 8);
            x.less(script, 1);
            Checks.same("add behind less", x.add(script, 0, 0, 0, 0), 8);
        }
    }

    private static void thrown(String what, Editropes x, Supplier<Object> call, String due) {
        String before = Given.state(x);
        Checks.same(what, Checks.outcome(call), due);
        Checks.same(what + " is not counted", x.house(4), 0);
        Checks.same(what + " changes nothing", Given.state(x), before);
    }

    /** "(exceptions go ahead of it)": each of these calls would be REFUSED but for the wrong argument. */
    private static void exceptionsGoAheadOfRefused() {
        Editropes x = scripts(times("5-6:a", 8), times("5-6:b", 8));
        thrown("add at no PLACE with 8", x, () -> x.add(0, 0, 41, 0, 0), ARGUMENT);
        thrown("add of no WORD with 8", x, () -> x.add(0, 0, 0, 0, 7), ARGUMENT);
        thrown("run of what does not fit on no ROPE", x, () -> x.run(0, 3), INDEX);
        thrown("compose of 16 into no SCRIPT", x, () -> x.compose(0, 1, 4), INDEX);
        thrown("invert of what does not fit into no SCRIPT", x, () -> x.invert(0, 0, -1), INDEX);
        thrown("mirror of what does not fit into no SCRIPT", x, () -> x.mirror(0, 0, 4), INDEX);
        thrown("swap of what has none behind", x, () -> x.swap(0, 7), INDEX);
        thrown("join of 16 into no SCRIPT", x, () -> x.join(0, 1, 4), INDEX);
        thrown("join with itself, which is not apart", x, () -> x.join(0, 0, 1), ARGUMENT);
        Editropes y = Given.ropes("ab".repeat(20), "b".repeat(20));
        thrown("between of more than 8 into no SCRIPT", y, () -> y.between(0, 1, 4), INDEX);
        thrown("between of more than 8 of no ROPE", y, () -> y.between(0, 3, 0), INDEX);
    }

    /** "if from or to is not 0 to 40, to is less than from" */
    private static void addTakesPlacesUpToForty() {
        for (int from = -1; from <= 41; from++) {
            for (int to = -1; to <= 41; to++) {
                Editropes x = new Editropes();
                int f = from;
                int t = to;
                boolean good = from >= 0 && to <= 40 && from <= to;
                Checks.same("add from " + f + " to " + t, Checks.outcome(() -> x.add(2, f, t, 36, 1)), good ? 1 : ARGUMENT);
                Checks.same("then", x.told(2), good ? from + "-" + to + ":-" : "");
            }
        }
    }

    /** "how many (all, if there are not so many)" */
    private static void lessTakesWhatThereIs() {
        for (int there = 0; there <= 8; there++) {
            for (int many = 1; many <= 8; many++) {
                Editropes x = new Editropes();
                for (int k = 0; k < there; k++) {
                    x.add(3, k, k, k, 1);
                }
                int left = Math.max(0, there - many);
                Checks.same("less of " + many + " of " + there, x.less(3, many), left);
                Checks.same("how many are left", x.ofScript(3, 0), left);
                Checks.same("the last ones go", x.told(3).startsWith("0-0:a"), left > 0);
                Checks.same("less is not REFUSED", x.house(4), 0);
            }
        }
    }

    /** "of each SPLICE from, "-", to, ":" and its text, with a blank between two" */
    private static void toldWithBlanksBetween() {
        Editropes x = new Editropes();
        StringBuilder due = new StringBuilder();
        Checks.same("told of none", x.told(0), "");
        for (int k = 0; k < 8; k++) {
            x.add(0, k, 5 * k, 36, k % 3);
            due.append(k == 0 ? "" : " ").append(k).append('-').append(5 * k).append(':').append("-a".substring(0, k % 3));
            Checks.same("told of " + (k + 1), x.told(0), due.toString());
        }
        Editropes deep = deep();
        String text = deep.text(2);
        Checks.same("told of 8 with texts of 40", deep.told(0), times("0-0:" + text, 4) + " " + times("0-40:", 4));
    }

    /** "0 how many SPLICES, 1 their GROWTH together, 2 how many SIGNS go by them, 3 how many come" */
    private static void whatIsCountedOfAScript() {
        int[][] due = {{0, 0, 0, 0}, {1, -40, 40, 0}, {1, 6, 0, 6}, {8, -320 + 48, 320, 48}};
        Editropes x = scripts("", "0-40:", "0-0:abcdef", times("0-40:abcdef", 8));
        for (int s = 0; s < 4; s++) {
            for (int what = 0; what < 4; what++) {
                Checks.same("ofScript " + s + " what " + what, x.ofScript(s, what), due[s][what]);
            }
        }
        Checks.same("what comes by texts of 40", deep().ofScript(0, 3), 160);
        Checks.same("what goes by texts of 40", deep().ofScript(0, 2), 160);
        Checks.same("the growth of texts of 40", deep().ofScript(0, 1), 0);
    }

    private static void fit(String told, String text, String made) {
        Editropes x = Given.ropes("z", text, "z");
        Given.splices(x, 2, told);
        x.mark(1, 0, 0);
        String before = Given.state(x);
        boolean fits = !made.equals("!");
        String what = told + " on \"" + text + "\"";
        Checks.same(what + " fits", x.fits(2, 1), fits);
        Checks.same(what + " makes", x.makes(2, 1), made);
        Checks.same(what + ": asking changes nothing", Given.state(x), before);
        Checks.same(what + ": asking tells no REFUSED", x.house(4), 0);
        if (fits) {
            Checks.same(what + " run", x.run(2, 1), made.length());
            Checks.same(what + " run makes", x.text(1), made);
        } else {
            Checks.refused(what + " run", x, () -> x.run(2, 1));
            Checks.refused(what + " invert", x, () -> x.invert(2, 1, 3));
            Checks.refused(what + " mirror", x, () -> x.mirror(2, 1, 3));
        }
    }

    /** "if each SPLICE of it, one by one, finds its PLACES" */
    private static void scriptsFindTheirPlaces() {
        fit("0-0:", "", "");
        fit("0-0:a", "", "a");
        fit("0-1:", "", "!");
        fit("1-1:", "", "!");
        fit("3-3:x", "abc", "abcx");
        fit("3-4:x", "abc", "!");
        fit("4-4:x", "abc", "!");
        fit("0-3:", "abc", "");
        fit("0-4:", "abc", "!");
        fit("3-3:xyz 6-6:0", "abc", "abcxyz0");
        fit("3-3:xyz 7-7:0", "abc", "!");
        fit("0-2: 1-1:0", "abc", "c0");
        fit("0-2: 2-2:0", "abc", "!");
        fit("0-3: 0-0:", "abc", "");
        fit("0-3: 0-1:", "abc", "!");
        fit("4-4:x 0-1:", "abc", "!");
        fit("40-40: 0-40:", Given.digits(40), "");
        fit("40-40:", Given.digits(39), "!");
    }

    /** "and there are at most 40 SIGNS in the end (between its SPLICES there may be more)" */
    private static void fortySignsInTheEnd() {
        String full = Given.digits(40);
        fit("39-39:a", Given.digits(39), Given.digits(39) + "a");
        fit("40-40:a", full, "!");
        fit("40-40:ab 0-1:", full, "!");
        fit("40-40:ab 0-2:", full, full.substring(2) + "ab");
        fit("0-0:abcdef 40-40:abcdef 0-12:", full, full.substring(6, 34) + "abcdef" + full.substring(34));
        fit(times("0-0:abcdef", 7) + " 1-40:", full, "!");
        fit(times("0-0:abcdef", 4) + " 0-24:", full, full);
        fit(times("0-0:abcdef", 4) + " 0-23:", full, "!");
        fit(times("40-40:abcdef", 6) + " 0-36:", full, full.substring(36) + "abcdef".repeat(6));
    }

    private static void twoHundredSignsBetween() {
        Editropes x = deep();
        String text = x.text(2);
        x.mark(0, 0, 0);
        x.mark(0, 1, 1);
        x.mark(0, 2, 40);
        Checks.same("200 signs between fit", x.fits(0, 0), true);
        Checks.same("200 signs between make", x.makes(0, 0), Given.digits(40));
        Checks.same("200 signs between are inverted", x.invert(0, 0, 2), 8);
        Checks.same("the inverse of 200 signs", x.told(2), times("0-0:" + text, 4) + " " + times("0-40:", 4));
        Checks.same("200 signs between are mirrored", x.mirror(0, 0, 3), 8);
        String turned = new StringBuilder(text).reverse().toString();
        StringBuilder due = new StringBuilder();
        for (int places = 40; places < 200; places += 40) {
            due.append(places).append('-').append(places).append(':').append(turned).append(' ');
        }
        Checks.same("the mirror of 200 signs", x.told(3), due + "160-200: 120-160: 80-120: 40-80:");
        Checks.same("the mirror of 200 signs makes", x.makes(3, 0), Given.digits(40));
        Checks.same("200 signs are sound", x.isSound(), true);
        Checks.same("200 signs have their digest", x.digest(), WholeTest.digestOf(x));
        Checks.same("200 signs between are run", x.run(3, 0), 40);
        Checks.same("the text behind that", x.text(0), Given.digits(40));
        Checks.same("what undoes a part of it", x.undoes(0, 0), "40-40:" + turned);
        Checks.same("a mark ahead of 200 signs", x.place(0, 0), 0);
        Checks.same("a mark in 200 signs", x.place(0, 1), 1);
        Checks.same("a mark behind 200 signs", x.place(0, 2), 40);
        Checks.refused("undo up to 80", x, () -> x.undo(0));
    }

    /** swap() brings PLACES that add() does not take. */
    private static void placesBeyondForty() {
        Editropes x = Given.ropes(Given.digits(40));
        Given.splices(x, 0, "38-39:xyz 0-0:abcdef");
        Checks.same("a place moves beyond 40", x.swap(0, 0), 1);
        Checks.same("places beyond 40", x.told(0), "0-0:abcdef 44-45:xyz");
        Given.splices(x, 0, "0-8:");
        Checks.same("places beyond 40 fit", x.fits(0, 0), true);
        Checks.same("places beyond 40 make", x.makes(0, 0), Given.digits(38).substring(2) + "xyz9");
        Checks.same("places beyond 40 run", x.run(0, 0), 40);
        Checks.same("what undoes one beyond 40", x.undoes(0, 1), "44-47:8");
        x.less(0, 1);
        Checks.same("without what goes then", x.makes(0, 0), "!");
    }

    private static void runsOfNone() {
        for (String text : new String[] {"", "abc", Given.digits(40)}) {
            Editropes x = Given.ropes(text);
            String before = Given.state(x);
            Checks.same("a script of none fits", x.fits(0, 0), true);
            Checks.same("a script of none makes the same", x.makes(0, 0), text);
            Checks.same("a run of none", x.run(0, 0), text.length());
            Checks.same("invert of none", x.invert(0, 0, 1), 0);
            Checks.same("mirror of none", x.mirror(0, 0, 1), 0);
            Checks.same("a run of none is no act", Given.state(x), before);
        }
    }

    /** "REFUSED if it does not FIT": then none of its SPLICES is done, not those that would find their PLACES. */
    private static void runsThatDoNotFit() {
        for (String told : new String[] {"0-1:x 0-0:y 9-9:z", "0-0:abcdef 0-0:abcdef", "6-6:", "0-3: 0-3:"}) {
            Editropes x = Given.ropes(told.startsWith("0-0") ? Given.digits(29) : "abcde");
            Given.splices(x, 1, told);
            Given.splices(x, 2, "1-2:z");
            x.mark(0, 0, 3);
            Checks.refused("run of " + told, x, () -> x.run(1, 0));
            Checks.refused("invert of " + told, x, () -> x.invert(1, 0, 2));
            Checks.refused("mirror of " + told, x, () -> x.mirror(1, 0, 2));
        }
    }

    /** "each comes to the HISTORY": eight at once leave room for two older ones. */
    private static void runComesToTheHistory() {
        Editropes x = Given.ropes("abcde");
        Given.splices(x, 0, times("0-0:z", 7) + " 12-12:-");
        Checks.same("a run of 8", x.run(0, 0), 13);
        Checks.same("the history behind 5 and 8", x.history(0), 10);
        Checks.same("acts behind 5 and 8", x.house(2), 13);
        Checks.same("what undoes the last of 8", x.undoes(0, 0), "12-13:");
        Checks.same("what undoes the first of 8", x.undoes(0, 7), "0-1:");
        Checks.same("what undoes an older one", x.undoes(0, 9), "3-4:");
        Checks.same("one of 8 is undone", x.undo(0), 9);
        Checks.same("the others of 8 stay", x.text(0), "zzzzzzzabcde");
        Checks.same("the script stays", x.ofScript(0, 0), 8);
    }

    /** "REFUSED with more than 8" */
    private static void composedUpToEight() {
        for (int one = 0; one <= 8; one++) {
            for (int two = 0; two <= 8; two++) {
                Editropes x = scripts(times("1-1:a", one), times("2-2:b", two), "3-3:c");
                String due = (times("1-1:a", one) + " " + times("2-2:b", two)).trim();
                if (one + two <= 8) {
                    Checks.same("compose of " + one + " and " + two, x.compose(0, 1, 2), one + two);
                    Checks.same("compose's text", x.told(2), due);
                } else {
                    Checks.refused("compose of " + one + " and " + two, x, () -> x.compose(0, 1, 2));
                }
            }
        }
    }

    /** "(it may be one of both)" */
    private static void composedOfItself() {
        for (int many = 0; many <= 5; many++) {
            Editropes x = scripts(times("1-1:a", many), "2-2:b");
            if (many <= 4) {
                Checks.same("compose of " + many + " twice", x.compose(0, 0, 0), 2 * many);
                Checks.same("compose of " + many + " twice, text", x.told(0), times("1-1:a", 2 * many));
            } else {
                Checks.refused("compose of 5 twice", x, () -> x.compose(0, 0, 0));
            }
            x.less(0, 8);
            Checks.same("compose of none and one into the first", x.compose(0, 1, 0), 1);
            x.add(0, 9, 9, 9, 1);
            Checks.same("what comes to the one comes not to the other", x.told(1), "2-2:b");
            x.less(1, 1);
            Checks.same("what goes from the other goes not from the one", x.told(0), "2-2:b 9-9:j");
            Checks.same("compose of none and none", x.compose(1, 2, 0), 0);
            Checks.same("compose of none and none empties", x.told(0), "");
        }
    }

    private static void inverse(String text, String told, String due) {
        Editropes x = Given.ropes(text);
        Given.splices(x, 0, told);
        Given.splices(x, 1, "7-7:");
        Checks.same("invert of " + told, x.invert(0, 0, 1), due.split(" ").length);
        Checks.same("the inverse of " + told, x.told(1), due);
        Checks.same("the one stays", x.told(0), told);
        Checks.same("invert to itself of " + told, x.invert(0, 0, 0), due.split(" ").length);
        Checks.same("the inverse to itself", x.told(0), due);
    }

    /** "what undoes its SPLICES, from the last one on" */
    private static void inverses() {
        inverse("", "0-0:", "0-0:");
        inverse("", "0-0:abcdef", "0-6:");
        inverse("abc", "0-3:", "0-0:abc");
        inverse("abc", "3-3:z", "3-4:");
        inverse("abc", "0-1:xyz 2-4:", "2-2:zb 0-3:a");
        inverse(Given.digits(40), "0-40:a 1-1:b", "1-2: 0-1:" + Given.digits(40));
        inverse(Given.digits(40), "0-0:abcdef 0-40: 2-2:ab", "2-4: 0-0:abcdef" + Given.digits(34) + " 0-6:");
        inverse("ab", times("0-1:b", 8), times("0-1:b", 7) + " 0-1:a");
    }

    private static void mirror(String text, String told, String due) {
        Editropes x = Given.ropes(text);
        Given.splices(x, 0, told);
        Given.splices(x, 1, "7-7:");
        String made = new StringBuilder(x.makes(0, 0)).reverse().toString();
        Checks.same("mirror of " + told, x.mirror(0, 0, 1), due.split(" ").length);
        Checks.same("the mirror of " + told, x.told(1), due);
        Checks.same("the one stays", x.told(0), told);
        Checks.same("mirror to itself of " + told, x.mirror(0, 0, 0), due.split(" ").length);
        Checks.same("the mirror to itself", x.told(0), due);
        x.reverse(0);
        Checks.same("what the mirror makes", x.makes(1, 0), made);
    }

    /** "(n - to, n - from, the text turned round)", "n as how many SIGNS there are ahead of it" */
    private static void mirrors() {
        mirror("", "0-0:", "0-0:");
        mirror("", "0-0:abc", "0-0:cba");
        mirror("abc", "0-0:xy", "3-3:yx");
        mirror("abc", "3-3:xy", "0-0:yx");
        mirror("abc", "0-3:z", "0-3:z");
        mirror("abc", "0-1:", "2-3:");
        mirror("abc", "0-0:uvwxyz 9-9:a 0-10:", "3-3:zyxwvu 0-0:a 0-10:");
        mirror(Given.digits(40), "40-40:ab 0-2:", "0-0:ba 40-42:");
        mirror("a", times("0-1:bc 0-1:", 4), times("0-1:cb 1-2:", 4));
    }

    private static void swapped(String told, String due) {
        Editropes x = scripts("", told);
        if (due.equals("REFUSED")) {
            Checks.refused("swap of " + told, x, () -> x.swap(1, 0));
        } else {
            Checks.same("swap of " + told, x.swap(1, 0), 1);
            Checks.same("swapped " + told, x.told(1), due);
            Checks.same("swap is no act", x.house(2), 0);
        }
    }

    /** "they are APART, if u is less than f, or g greater than f and how many SIGNS x has" */
    private static void neighbours() {
        swapped("4-6:ab 0-3:xyz", "0-3:xyz 4-6:ab");
        swapped("4-6:ab 0-3:", "0-3: 1-3:ab");
        swapped("4-6:ab 3-3:x", "3-3:x 5-7:ab");
        swapped("4-6:ab 3-4:x", "REFUSED");
        swapped("4-6:ab 4-4:x", "REFUSED");
        swapped("4-6:ab 0-40:x", "REFUSED");
        swapped("4-6:ab 5-5:x", "REFUSED");
        swapped("4-6:ab 6-6:x", "REFUSED");
        swapped("4-6:ab 7-7:x", "7-7:x 4-6:ab");
        swapped("4-6:ab 7-9:xyz", "7-9:xyz 4-6:ab");
        swapped("4-6: 4-5:x", "REFUSED");
        swapped("4-6: 5-5:x", "7-7:x 4-6:");
        swapped("4-4:abcdef 10-10:x", "REFUSED");
        swapped("4-4:abcdef 11-12:x", "5-6:x 4-4:abcdef");
        swapped("0-0: 0-0:", "REFUSED");
        swapped("0-0: 1-1:", "1-1: 0-0:");
        swapped("1-1: 0-0:", "0-0: 1-1:");
        swapped("0-0: 0-1:", "REFUSED");
        swapped("40-40: 0-39:abcdef", "0-39:abcdef 7-7:");
        swapped("0-40: 1-1:a", "41-41:a 0-40:");
    }

    private static void neighboursOfEight() {
        for (int k = 0; k < 7; k++) {
            Editropes x = new Editropes();
            for (int i = 0; i < 8; i++) {
                x.add(0, 4 * i, 4 * i, i, 1);
            }
            String[] due = x.told(0).split(" ");
            due[k] = (4 * k + 3) + "-" + (4 * k + 3) + ":" + Given.SIGNS.charAt(k + 1);
            due[k + 1] = (4 * k) + "-" + (4 * k) + ":" + Given.SIGNS.charAt(k);
            Checks.same("swap of " + k, x.swap(0, k), 1);
            Checks.same("swapped " + k, x.told(0), String.join(" ", due));
        }
        for (int many = 0; many <= 8; many++) {
            Editropes x = scripts(times("0-0:a", many));
            int last = many - 1;
            Checks.index("swap of the last of " + many, () -> x.swap(0, last));
            Checks.index("swap behind the last of " + many, () -> x.swap(0, last + 1));
            Checks.index("swap ahead of the first of " + many, () -> x.swap(0, -1));
            Checks.same("what throws is not counted", x.house(4), 0);
        }
    }

    private static void joinedOfNone() {
        Editropes x = scripts("", "1-2:a 1-1:b", "9-9:z", "");
        Checks.same("join of none and one", x.join(0, 1, 2), 2);
        Checks.same("join of none and one, text", x.told(2), "1-2:a 1-1:b");
        Checks.same("join of one and none", x.join(1, 3, 2), 2);
        Checks.same("join of one and none, text", x.told(2), "1-2:a 1-1:b");
        Checks.same("join of none and none", x.join(0, 3, 2), 0);
        Checks.same("join of none and none, text", x.told(2), "");
        Checks.same("join of none and one into none", x.join(0, 1, 0), 2);
        Checks.argument("join of a script of none with itself", () -> x.join(3, 3, 1));
    }

    /** "REFUSED if there is no JOIN, or with more than 8" */
    private static void joinedUpToEight() {
        for (int one = 0; one <= 8; one++) {
            for (int two = 0; two <= 8; two++) {
                Editropes x = scripts(times("9-9:abc", one), times("2-2:z", two), "1-1:");
                if (one + two <= 8) {
                    Checks.same("join of " + one + " and " + two, x.join(0, 1, 2), one + two);
                    Checks.same("join of " + one + " and " + two + ", text", x.told(2), x.told(0) + (one * two == 0 ? "" : " ") + x.told(1));
                } else {
                    Checks.refused("join of " + one + " and " + two, x, () -> x.join(0, 1, 2));
                }
            }
        }
    }

    private static void joined(String a, String b, String due) {
        Editropes x = scripts(a, b, "1-1:z");
        if (due.equals("REFUSED")) {
            Checks.refused("join of " + a + " and " + b, x, () -> x.join(0, 1, 2));
            Checks.refused("join of " + a + " and " + b + " into itself", x, () -> x.join(0, 1, 1));
        } else {
            Checks.same("join of " + a + " and " + b, x.join(0, 1, 2), due.split(" ").length);
            Checks.same("joined " + a + " and " + b, x.told(2), due);
            Checks.same("a stays", x.told(0), a);
            Checks.same("b stays", x.told(1), b);
        }
    }

    /** "APART, if to of the one is less than from of the other one"; "the one of a stands so for the next ones of b" */
    private static void joinedIfApart() {
        joined("2-4:x", "5-6:y", "2-4:x 4-5:y");
        joined("2-4:x", "4-6:y", "REFUSED");
        joined("2-4:x", "0-1:y", "2-4:x 0-1:y");
        joined("2-4:x", "0-2:y", "REFUSED");
        joined("2-4:x", "3-3:y", "REFUSED");
        joined("2-4:x", "0-9:y", "REFUSED");
        joined("2-2:", "2-2:", "REFUSED");
        joined("2-2:", "3-3:", "2-2: 3-3:");
        joined("3-3:", "2-2:", "3-3: 2-2:");
        joined("0-0:abcdef", "1-40:", "0-0:abcdef 7-46:");
        joined("0-39:", "40-40:a", "0-39: 1-1:a");
        joined("2-4:x 3-3:y", "5-6:z", "2-4:x 3-3:y 5-6:z");
        joined("2-4:x 4-4:y", "5-6:z", "REFUSED");
        joined("2-4:x 2-2:y", "5-6:z", "2-4:x 2-2:y 5-6:z");
        joined("9-9:a", "1-1:xyz 13-13:b", "9-9:a 1-1:xyz 14-14:b");
        joined("9-9:a", "1-1:xyz 12-12:b", "REFUSED");
        joined("9-9:a", "1-1:xyz 11-11:b", "9-9:a 1-1:xyz 11-11:b");
        joined("9-9:a", "1-4: 7-7:b", "9-9:a 1-4: 8-8:b");
        joined("9-9:a", "1-4: 6-6:b", "REFUSED");
        joined("9-9:a 4-5:", "1-2:xyz 0-0:b 14-14:c", "9-9:a 4-5: 1-2:xyz 0-0:b 14-14:c");
    }

    private static void joinedIntoOneOfBoth() {
        Editropes x = scripts("2-4:x 9-9:ab", "6-7:uvw");
        Checks.same("join into the one", x.join(0, 1, 0), 3);
        Checks.same("join into the one, text", x.told(0), "2-4:x 9-9:ab 5-6:uvw");
        Checks.same("then the other one stays", x.told(1), "6-7:uvw");
        Editropes y = scripts("2-4:x 9-9:ab", "6-7:uvw");
        Checks.same("join into the other one", y.join(0, 1, 1), 3);
        Checks.same("join into the other one, text", y.told(1), "2-4:x 9-9:ab 5-6:uvw");
        Checks.same("then the one stays", y.told(0), "2-4:x 9-9:ab");
    }

    private static void between(String one, String two, String due) {
        Editropes x = Given.ropes(one, two);
        Given.splices(x, 3, "5-5:z 6-6:z");
        String what = "between " + one + " and " + two;
        Checks.same(what, x.between(0, 1, 3), due.isEmpty() ? 0 : due.split(" ").length);
        Checks.same(what + ", text", x.told(3), due);
        Checks.same(what + ", made", x.makes(3, 0), two);
        Checks.same(what + ", just so many", x.ofScript(3, 2) + x.ofScript(3, 3), x.least(0, 1));
    }

    /** "with none left on one side, all that is left on the other one goes, or comes" */
    private static void betweenEmptyAndAlike() {
        String full = Given.digits(40);
        between("", "", "");
        between("a", "a", "");
        between(full, full, "");
        between(full, "", "0-40:");
        between("", full, "0-0:" + full);
        between("a", "b", "0-1:b");
        between("ab", "abcd", "2-2:cd");
        between("abcd", "ab", "2-4:");
        between("abcd", "cd", "0-2:");
        between("cd", "abcd", "0-0:ab");
        between(full, "z".repeat(40), "0-40:" + "z".repeat(40));
        Editropes x = Given.ropes(full);
        Given.splices(x, 0, "1-1:a");
        Checks.same("between a rope and itself", x.between(0, 0, 0), 0);
        Checks.same("between a rope and itself empties", x.told(0), "");
    }

    /** "REFUSED with more than 8" */
    private static void betweenUpToEight() {
        for (int many = 1; many <= 13; many++) {
            Editropes x = Given.ropes("ab".repeat(many), "a".repeat(many));
            Given.splices(x, 2, "1-1:z");
            for (int way = 0; way < 2; way++) {
                int from = way;
                if (many <= 8) {
                    Checks.same("between of " + many, x.between(from, 1 - from, 2), many);
                    Checks.same("between of " + many + " makes", x.makes(2, from), x.text(1 - from));
                } else {
                    Checks.refused("between of " + many, x, () -> x.between(from, 1 - from, 2));
                }
            }
        }
    }

    /** "the SIGN of the first one goes, if of what is left then LEAST is not greater than if that of the other one came" */
    private static void betweenByLeast() {
        between("ab", "ba", "0-1: 1-1:a");
        between("ba", "ab", "0-1: 1-1:b");
        between("ab", "cab", "0-0:c");
        between("cab", "ab", "0-1:");
        between("abc", "cab", "0-0:c 3-4:");
        between("cab", "abc", "0-1: 2-2:c");
        between("aab", "bba", "0-2: 1-1:ba");
        between("xay", "uav", "0-1:u 2-3:v");
        between("0a0a", "a0a0", "0-1: 3-3:0");
    }

    private static void leastIs(String one, String two, int due) {
        Editropes x = Given.ropes(one, two);
        Checks.same("least of " + one + " and " + two, x.least(0, 1), due);
        Checks.same("least of " + two + " and " + one, x.least(1, 0), due);
    }

    /** "how many SIGNS have to go and to come at least, so that the one becomes the other one" */
    private static void leastOfTwo() {
        leastIs("", "", 0);
        leastIs("", "a", 1);
        leastIs("a", "a", 0);
        leastIs("a", "b", 2);
        leastIs("", Given.digits(40), 40);
        leastIs(Given.digits(40), "a".repeat(40), 80);
        leastIs(Given.digits(40), Given.digits(40), 0);
        leastIs(Given.digits(40), Given.digits(39) + "a", 2);
        leastIs("ab".repeat(20), "ba".repeat(20), 2);
        leastIs("abc", "cba", 4);
    }

    /** "0 SIGNS of all ROPES, 1 SPLICES of all SCRIPTS, 2 acts ever done, 3 MARKS that are not NONE, [..]" */
    private static void house() {
        Editropes x = new Editropes();
        for (int what = 0; what < 6; what++) {
            Checks.same("house " + what + " of a new one", x.house(what), 0);
        }
        Editropes full = Given.ropes(Given.digits(40), Given.digits(40), Given.digits(40));
        for (int i = 0; i < 32; i++) {
            full.add(i % 4, 0, 1, 1, 1);
        }
        for (int i = 0; i < 12; i++) {
            full.mark(i % 3, i / 3, 40);
        }
        for (int i = 0; i < 5; i++) {
            full.putSign(i % 3, 0);
            full.add(i % 4, 0, 0, 0, 0);
        }
        full.run(0, 0);
        full.undo(0);
        full.reverse(1);
        full.knock();
        int[] due = {120, 32, 120 + 8 + 1 + 1, 12, 10, 1};
        for (int what = 0; what < 6; what++) {
            Checks.same("house " + what + " of a full one", full.house(what), due[what]);
        }
        Checks.same("each refused one is counted", Checks.outcome(() -> full.run(1, 3)), INDEX);
        Checks.same("what throws is not", full.house(4), 10);
    }

    private static void knocks() {
        Editropes x = new Editropes();
        String before = Given.state(x);
        for (int times = 1; times <= 300; times++) {
            Checks.same("knock " + times, x.knock(), times);
        }
        Checks.same("knocks", x.house(5), 300);
        Checks.same("a knock does nothing else", Given.state(x), before.replace(" 0 \n", " 300 \n"));
        Checks.same("another one was not knocked at", new Editropes().house(5), 0);
    }

    private static void sound(String what, Editropes x) {
        long digest = x.digest();
        Checks.same(what + " is sound", x.isSound(), true);
        Checks.same(what + ": asking changes nothing", x.digest(), digest);
        Checks.same(what + " has its digest", digest, WholeTest.digestOf(x));
    }

    private static void soundAtTheEdges() {
        sound("a new one", new Editropes());
        sound("a deep one", deep());
        sound("one with full ropes that are alike", Given.ropes(Given.digits(40), Given.digits(40), Given.digits(40)));
        sound("one with full ropes that are not", Given.ropes(Given.digits(40), "a".repeat(40), "ab".repeat(20)));
        sound("one with more than 8 between", Given.ropes("ab".repeat(20), "b".repeat(20)));
        sound("one with scripts that fit nothing", scripts("40-40:", "1-1:", "0-1:", times("0-0:abcdef", 8)));
        Editropes marked = Given.ropes("", Given.digits(40));
        for (int m = 0; m < 4; m++) {
            marked.mark(0, m, 0);
            marked.mark(1, m, 40);
        }
        sound("one with marks at both ends", marked);
    }

    /** "d becomes d * 31 + v, which wraps around as a 64-bit integer" */
    private static void digestWrapsAround() {
        BigInteger whole = WholeTest.sumOf(deep());
        Checks.same("the sum goes far beyond 64 bits", whole.bitLength() > 1000, true);
        Checks.same("the digest wraps around", deep().digest(), whole.longValue());
        Editropes x = Given.ropes("ab");
        long[] seen = new long[6];
        for (int i = 0; i < 6; i++) {
            seen[i] = x.digest();
            for (int k = 0; k < i; k++) {
                Checks.same("each change changes the digest", seen[i] == seen[k], false);
            }
            switch (i) {
                case 0 -> x.knock();
                case 1 -> x.undo(2);
                case 2 -> x.mark(1, 3, 0);
                case 3 -> x.put(2, 0, 0);
                default -> x.add(3, 9, 9, 0, 0);
            }
        }
    }
}
