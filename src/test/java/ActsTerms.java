/** The sentence on 512 calls, and each one of the document's Terms, III. (acts, the seed, what is asked), at its boundaries. */
final class ActsTerms extends Quoting {
    private static final String TERMS = Document.TERMS;
    private static final String FAST = S + "delay 0 0;delay 1 0;";
    /** 10 times 99 TICKS: TICK 990. */
    private static final String LATE = times("tick 99;", 10);

    private static void calls() {
        says(Document.USE, "An object is used for at most 512 calls after it has been made; what later calls answer is free.");
        FarEditors x = new FarEditors();
        for (int i = 0; i < 511; i++) {
            x.end(-1);
        }
        due("the 512th call behind refused ones", x.status(0), 511);
        // a session of one feed takes 4 calls
        x = told(S);
        for (int i = 5; i <= 511; i++) {
            x.chance(40);
        }
        due("the 512th call behind 507 ACTS", x.has(8), 20);
        x = told(S);
        for (int i = 5; i <= 510; i += 2) {
            x.put(0, 0, 1);
            x.back();
        }
        x.put(0, 0, 26);
        due("the 512th call behind 253 ACTS that were taken back", x.letter(0, 0), 26);
    }

    // ---- acts

    private static void acts() {
        says(TERMS, "III. ACTS: an EDIT, an undo, a redo; a CURSOR, a MARK, one that goes; off, on; another delay; TICKS;"
            + " CHANGES by the seed.");
        FarEditors x = told(S);
        edit(x, 0, "+x");
        due("an EDIT", x.has(8), 1);
        x.undo(0);
        due("an undo", x.has(8), 2);
        x.redo(0);
        due("a redo", x.has(8), 3);
        x.cursor(0, 2);
        due("a CURSOR", x.has(8), 4);
        x.marks(0, 0, 1, 0);
        due("a MARK", x.has(8), 5);
        x.clears(0, 0);
        due("one that goes", x.has(8), 6);
        x.line(1, false);
        due("off", x.has(8), 7);
        x.line(1, true);
        due("on", x.has(8), 8);
        x.delay(0, 3);
        due("another delay", x.has(8), 9);
        x.ticks(99);
        due("99 TICKS", x.has(8), 10);
        x.chance(40);
        due("40 CHANGES", x.has(8), 11);
        x.put(0, 0, 1);
        x.cut(0, 0, 1);
        x.type(0, 1);
        due("a PUT, a CUT, what is typed", x.has(8), 14);
        x.seed(5);
        see(x, 0, 1);
        x.end(0);
        due("none of these", x.has(8), 14);
        x.put(0, 999, 1);
        x.cut(0, 0, 0);
        x.type(0, 27);
        edit(x, 0, "?");
        x.undo(2);
        x.redo(1);
        x.cursor(0, -1);
        x.marks(0, 1, 0, 0);
        x.clears(0, 0);
        x.line(0, true);
        x.delay(0, 3);
        x.ticks(0);
        x.chance(0);
        x.seed(-1);
        session(x, "");
        due("none of what is refused", x.has(8), 14);

        says(TERMS, "The last 20 can be taken back.");
        for (int acts = 19; acts <= 45; acts += 13) {
            x = told(S);
            for (int i = 1; i <= acts; i++) {
                x.put(0, 0, 1);
                due("ACTS behind " + i, x.has(8), Math.min(i, 20));
            }
            int left = Math.min(acts, 20);
            for (int i = 1; i <= left; i++) {
                due("back " + i + " of " + acts, x.back(), true);
                due("letters", x.editor(0, 0), 3 + acts - i);
            }
            due("none more of " + acts, x.back(), false);
            due("letters", x.editor(0, 0), 3 + acts - left);
            x.put(0, 0, 1);
            due("one more", x.back(), true);
        }
    }

    // ---- the seed

    private static long drawn;

    private static int draw(int m) {
        drawn = (1103515245L * drawn + 12345L) % 2147483648L;
        return (int) (drawn / 64 % m);
    }

    /** What one CHANGE by a seed makes of a TEXT that all EDITORS have: an editor and its TEXT, or a TICK. */
    private static String changed(String text, int editors) {
        int kind = draw(4);
        if (kind == 3) {
            return "TICK";
        }
        int e = draw(editors);
        if (kind == 2) {
            if (text.isEmpty()) {
                return "none";
            }
            int at = draw(text.length());
            return e + text.substring(0, at) + text.substring(at + 1);
        }
        int at = draw(text.length() + 1);
        return e + text.substring(0, at) + (char) ('a' + draw(26)) + text.substring(at);
    }

    private static String changeOf(FarEditors x, String text) {
        int edits = x.chance(1);
        for (int e = 0; e < x.has(0); e++) {
            if (!text(x, e).equals(text)) {
                return edits == 1 ? e + text(x, e) : edits + " EDITS";
            }
        }
        return edits != 0 ? edits + " EDITS" : x.has(3) == 1 ? "TICK" : "none";
    }

    private static String state(FarEditors x) {
        return text(x, 0) + " " + text(x, 1) + " " + x.has(1) + " " + x.has(3) + " " + x.has(4);
    }

    private static void draws() {
        says(TERMS, "A DRAW of m: x (the seed) becomes (1103515245 x + 12345) mod 2 to the 31; floor(x / 64) mod m.");
        FarEditors x = told(S);
        x.seed(0);
        // 12345 (192, of 4: 0), 1406932606 (21983321, of 2: 1), 654583775 (10227871, of 4: 3), 1449466924 (22647920, of 26: 22)
        due("seed 0", changeOf(x, "abc"), "1abcw");
        x = told(S);
        x.seed(2147483647);
        // 1103515245 times 2147483647 is as -1103515245: 1043980748 (16312199, of 4: 3)
        due("the greatest seed", changeOf(x, "abc"), "TICK");
        x = told(S);
        // 1103527590 (17242618, of 4: 2), 377401575 (5896899, of 2: 1), 662824084 (10356626, of 3: 2)
        due("seed 1, at first", changeOf(x, "abc"), "1ab");
        x = told(S);
        x.chance(40);
        FarEditors y = told(S);
        for (int i = 0; i < 40; i++) {
            y.chance(1);
        }
        due("each CHANGE draws on from where the one before left", state(x), state(y));
    }

    private static void changes() {
        says(TERMS, "A CHANGE: a DRAW of 4: 0, 1: a DRAW of the EDITORS, a DRAW of its letters and one (a place),"
            + " a DRAW of 26: that letter (a is 0) is PUT there, an EDIT;");
        boolean[] seen = new boolean[4];
        for (int seed = 0; seed < 700; seed++) {
            String text = "abc".substring(0, 1 + seed % 3);
            FarEditors x = told("text " + text + " editors " + (2 + seed / 3 % 3) + ";");
            x.seed(seed);
            drawn = seed;
            String want = changed(text, x.has(0));
            due("a CHANGE by seed " + seed, changeOf(x, text), want);
            boolean isPut = want.length() == text.length() + 2;
            seen[0] |= isPut && want.startsWith(text + "a", 1);
            seen[1] |= isPut && want.endsWith("z" + text);
            seen[2] |= want.startsWith("3");
            seen[3] |= want.length() == 1;
        }
        due("an a at the end, a z ahead of all, the last editor, the only letter", seen[0] && seen[1] && seen[2] && seen[3], true);
        FarEditors x = told(S + times("edit 0 +" + times("q", 20) + ";", 10));
        x.seed(0);
        due("beyond 200 letters it is not", x.chance(1), 0);
        FarEditors y = told(S + times("edit 0 +" + times("q", 20) + ";", 10));
        y.seed(1449466924);
        due("yet all four were drawn", x.chance(5) + state(x), y.chance(5) + state(y));

        says(TERMS, "2: a DRAW of the EDITORS; if its TEXT has letters, a DRAW of these: that one is CUT, an EDIT;");
        for (int seed = 0; seed < 200; seed++) {
            x = told("text a editors 2;edit 0 -1;edit 1 -1;");
            x.seed(seed);
            drawn = seed;
            String want = changed("", 2);
            due("a CHANGE of no letters by seed " + seed, changeOf(x, ""), want);
            if (want.equals("none")) {
                y = told("text a editors 2;edit 0 -1;edit 1 -1;");
                y.seed((int) drawn);
                due("yet two were drawn by seed " + seed, x.chance(5) + state(x), y.chance(5) + state(y));
            }
        }

        says(TERMS, "3: a TICK (what can't be is not).");
        x = told(S + LATE + "tick 8;");
        x.seed(2147483647);
        due("TICK 998", x.chance(1) + x.has(3), 999);
        x.seed(2147483647);
        due("TICK 999", x.chance(1) + x.has(3), 999);
        x = told("text a editors 2;");
        for (int i = 0; i < 8; i++) {
            x.chance(40);
        }
        due("100 EDITS, no more", x.has(4), 100);
    }

    // ---- what is asked

    private static void writers() {
        says(TERMS, "A letter of the server's TEXT is BY the OP of its row that PUT it (1 and on; 0: it was told).");
        FarEditors x = told(FAST + "edit 0 +x;tick 1;edit 1 4 +y;tick 1;edit 0 -1;tick 1;");
        due("told ones, and one by OP 2", "" + x.by(0, 0) + x.by(1, 0) + x.by(2, 0) + x.by(3, 0), "0002");
        x.undo(0);
        x.ticks(1);
        due("what an undo PUT is by its OP", "" + x.by(0, 0) + x.by(4, 0), "42");
        x = told("text a editors 2;delay 0 0;delay 1 0;" + times("edit 0 +b;tick 1;", 28));
        for (int k = 0; k < 29; k++) {
            due("letter " + k + " of 29", x.by(k, 0), 28 - k);
        }
        x = told("text a editors 2;delay 0 0;delay 1 0;");
        for (int i = 1; i <= 100; i++) {
            x.put(i % 2, 0, 1);
            x.ticks(1);
        }
        due("by the hundredth OP", x.by(0, 0) + " " + x.by(0, 1), "100 0");
        due("by the first OP", x.by(99, 0) + " " + x.by(99, 1), "1 1");

        says(TERMS, "WITHOUT an OP of the row: its inverse, turned over all behind it, one after the other (as an OP of its"
            + " EDITOR over theirs; by ties 2 what these PUT is ahead), changes the TEXT.");
        FarEditors y = told(FAST + "edit 0 +x;tick 1;edit 1 -1 1 -1;tick 1;edit 0 1 +z;tick 1;");
        due("the text", text(y, NONE), "azc");
        due("the first: x was CUT behind it", letters(k -> y.without(1, k)), "azc");
        due("the one between", letters(k -> y.without(2, k)), "xazbc");
        due("the last, none behind it", letters(k -> y.without(3, k)), "ac");
        String cutBy1 = S + "delay 0 0;delay 1 0;edit 1 1 -1;tick 1;edit 0 1 +x;tick 1;";
        String cutBy0 = S + "delay 0 0;delay 1 0;edit 0 1 -1;tick 1;edit 1 1 +x;tick 1;";
        String[] by1 = {"axbc", "abxc", "axbc"};
        String[] by0 = {"abxc", "axbc", "axbc"};
        for (int ties = 0; ties <= 2; ties++) {
            FarEditors one = told(cutBy1 + "ties " + ties + ";");
            due("of editor 1 over that of 0, ties " + ties, letters(k -> one.without(1, k)), by1[ties]);
            FarEditors two = told(cutBy0 + "ties " + ties + ";");
            due("of editor 0 over that of 1, ties " + ties, letters(k -> two.without(1, k)), by0[ties]);
        }
        FarEditors z = told(S + "edit 0 -3;tick 9;edit 1 +z;tick 9;edit 1 -1;tick 9;");
        due("of no letters", letters(k -> z.without(1, k)), "abc");
    }

    private static void ahead() {
        says(TERMS, "AHEAD are TICKS as they come from now on, nothing else being done (99 at most, not beyond TICK 999).");
        FarEditors x = told(S + "delay 0 9;delay 1 9;edit 0 +x;off 1;");
        due("one that is off stays off", x.quiet(), NONE);
        due("what comes by TICK 8", x.later(8, NONE), 3);
        due("by TICK 9", x.later(9, NONE), 4);
        due("by TICK 99", x.later(99, NONE), 4);
        due("by TICK 100", x.later(100, NONE), NONE);
        due("nothing is done", x.has(3) + x.has(1) + x.has(8), 0);
        x = told(S + LATE);
        due("9 AHEAD of TICK 990", x.later(9, NONE), 3);
        due("10 AHEAD of TICK 990", x.later(10, NONE), NONE);
        x.ticks(9);
        due("none AHEAD of TICK 999", x.later(0, NONE), 3);
        due("one AHEAD of TICK 999", x.later(1, NONE), NONE);
        due("QUIET by TICK 999", x.quiet(), 0);
        x.put(0, 0, 1);
        due("not QUIET by TICK 999", x.quiet(), NONE);
        // sent at TICK 990 by delay 9: taken at 999, and its own comes back at once by delay 0
        x = told(S + "delay 0 9;delay 1 0;" + LATE + "edit 0 +x;");
        x.delay(0, 0);
        due("QUIET behind TICK 999", x.quiet(), 9);
        x = told(S + "delay 0 9;delay 1 0;" + LATE + "tick 1;edit 0 +x;");
        x.delay(0, 0);
        due("QUIET behind TICK 1000", x.quiet(), NONE);
    }

    private static String end(FarEditors x, int n) {
        return letters(k -> x.ends(n, k));
    }

    private static void orders() {
        says(TERMS, "ORDERS are all rows of the EDITORS from whom something is on its way, each once (ON or not), rising as rows;"
            + " by each the server takes these now in that order: what its TEXT is then is its END.");
        FarEditors x = told("text ab editors 4;ties 2;");
        due("nobody: one row", x.orders(0), 1);
        due("its END", end(x, 0), "ab");
        x.put(2, 1, 26);
        due("one", x.orders(0) + end(x, 0), "1azb");
        x.put(0, 1, 24);
        due("two", x.orders(0) + end(x, 0) + end(x, 1), "2axzbazxb");
        x.put(3, 1, 23);
        x.line(3, false);
        due("three, one is off", x.orders(0), 6);
        String[] three = {"axzwb", "axwzb", "azxwb", "azwxb", "awxzb", "awzxb"};
        for (int n = 0; n < three.length; n++) {
            due("END " + n + " of three", end(x, n), three[n]);
        }
        x.put(1, 1, 25);
        due("four", x.orders(0), 24);
        String letters = "xyzw";
        int n = 0;
        for (int a = 0; a < 4; a++) {
            for (int b = 0; b < 4; b++) {
                for (int c = 0; c < 4; c++) {
                    if (a != b && a != c && b != c) {
                        String row = "" + letters.charAt(a) + letters.charAt(b) + letters.charAt(c) + letters.charAt(6 - a - b - c);
                        due("END " + n + " of four", end(x, n), "a" + row + "b");
                        n++;
                    }
                }
            }
        }
        due("no END 24", x.ends(24, NONE), NONE);
        due("unlike ENDS", x.orders(1), 24);
        x.put(1, 0, 1);
        due("a BUFFER is not on its way", end(x, 0), "axyzwb");
        x = told("text ab editors 2;delay 0 9;edit 0 +x;tick 8;");
        due("with a TICK left they are taken now", end(x, 0), "xab");
        x.ticks(1);
        due("what was taken is on its way from nobody", x.orders(0) + "" + x.has(6), "12");
    }

    private static void seen() {
        says(TERMS, "SEEN are rows of a place, a letter (0: it has none there, 1 .. 26): FITS are ORDERS whose END is so.");
        FarEditors x = told("text az editors 2;ties 2;edit 0 1 +x;edit 1 1 +y;");
        // axyz, ayxz
        int[][] rows = {{0, 1}, {3, 26}, {1, 24}, {2, 24}, {4, 0}, {239, 0}, {3, 0}, {0, 0}, {4, 26}, {0, 26}};
        int[] fits = {2, 2, 1, 1, 2, 2, 0, 0, 0, 0};
        for (int i = 0; i < rows.length; i++) {
            due("a row", see(x, rows[i]), 1);
            due("FITS by " + rows[i][0] + ", " + rows[i][1], x.fits(NONE), fits[i]);
        }
        see(x, 1, 24, 2, 25);
        due("the first", x.fits(NONE) + "" + x.fits(0), "10");
        see(x, 1, 25, 2, 24);
        due("the second", x.fits(NONE) + "" + x.fits(0), "11");
        see(x, 1, 24, 2, 24);
        due("neither", x.fits(NONE), 0);
    }

    /** 227 letters that all have, and three that put 13 more at the end, of which only the last place tells. */
    private static FarEditors full() {
        String twenty = times("k", 20);
        String at = " 99 99 29 +";
        return told("text " + twenty + twenty + " editors 3;ties 2;" + times("edit 0 +" + twenty + ";", 9) + "edit 0 +kkkkkkk;tick 9;"
            + "edit 0" + at + "aaaaaax;edit 1" + at + "aaay;edit 2" + at + "az;");
    }

    private static void telling() {
        says(TERMS, "TELLING is the place (0 .. 239) by whose letter, or none, the most FITS left are fewest; of like ones the first.");
        FarEditors x = full();
        due("all 200 letters are PUT", x.has(5), 200);
        due("letters of an END", x.ends(0, NONE), 240);
        due("the last place", x.tells(0), 239);
        due("two are left", x.tells(1), 2);
        due("the last letter", "" + x.ends(0, 239) + " " + x.ends(0, 240), "26 -1");
        see(x, 239, 24);
        due("two of six", x.fits(NONE) + "" + x.fits(0) + x.fits(1), "235");
        due("one is left", x.tells(1), 1);
        due("there a END of yz.. and one of zy..", x.tells(0), 228);
        x = told("text a editors 2;");
        due("like ones: the first", x.tells(0) + "" + x.tells(1), "01");
        // xaa, axa: place 0 tells, and place 1 as well
        x = told("text aa editors 2;ties 2;edit 0 +x;edit 1 +a;");
        due("of two alike the first", x.tells(0) + "" + x.tells(1), "01");
        x = told("text ab editors 2;ties 2;edit 0 2 +x;edit 1 2 +y;");
        due("the first that tells", x.tells(0) + "" + x.tells(1), "21");
        // both CUT the same: like ENDS, which no place tells apart
        x = told("text ab editors 2;edit 0 -1;edit 1 -1;");
        due("none tells: the first, all left", x.tells(0) + "" + x.tells(1), "02");

        says(TERMS, "The constants: `NONE = -1`: There is none; it is refused.");
        due("NONE", FarEditors.NONE, -1);
        due("there is none", x.letter(0, 2), -1);
        due("it is refused", x.ticks(0), -1);
    }

    static void run() {
        calls();
        acts();
        draws();
        changes();
        writers();
        ahead();
        orders();
        seen();
        telling();
    }
}
