/** Objects in the states that the tests begin from, and all that can be asked of one. */
final class Given {
    static final String SIGNS = "abcdefghijklmnopqrstuvwxyz0123456789-";

    private Given() {
    }

    /** A new object with these texts in its ropes, each sign by an act of its own. */
    static Editropes ropes(String... texts) {
        Editropes x = new Editropes();
        for (int r = 0; r < texts.length; r++) {
            write(x, r, texts[r]);
        }
        return x;
    }

    static void write(Editropes x, int rope, String text) {
        for (char letter : text.toCharArray()) {
            x.putSign(rope, SIGNS.indexOf(letter));
        }
    }

    /** "0123.." of so many signs. */
    static String digits(int many) {
        return "0123456789".repeat(4).substring(0, many);
    }

    /** Splices as told() writes them come behind those of a script; each text is a WORD. */
    static void splices(Editropes x, int script, String told) {
        for (String splice : told.split(" ")) {
            String[] parts = splice.split("[-:]", 3);
            int first = parts[2].isEmpty() ? 0 : SIGNS.indexOf(parts[2].charAt(0));
            x.add(script, Integer.parseInt(parts[0]), Integer.parseInt(parts[1]), first, parts[2].length());
        }
        if (!x.told(script).endsWith(told)) {
            throw new IllegalStateException("no script of WORDs: " + told);
        }
    }

    /** All that stands, but for how often REFUSED was told. */
    static String state(Editropes x) {
        StringBuilder told = new StringBuilder();
        for (int what : new int[] {0, 1, 2, 3, 5}) {
            told.append(x.house(what)).append(' ');
        }
        for (int r = 0; r < 3; r++) {
            told.append('\n').append(x.text(r)).append(" marks");
            for (int m = 0; m < 4; m++) {
                told.append(' ').append(x.place(r, m));
            }
            told.append(" history");
            for (int k = 0; k < x.history(r); k++) {
                told.append(' ').append(x.undoes(r, k));
            }
        }
        for (int s = 0; s < 4; s++) {
            told.append("\nscript ").append(x.told(s));
        }
        return told.toString();
    }
}
