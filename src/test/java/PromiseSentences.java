/** Each sentence of the document's promises 1 to 39 at its boundaries. */
final class PromiseSentences extends Quoting {
    private static final int MIN = Integer.MIN_VALUE;
    private static final int MAX = Integer.MAX_VALUE;
    private static final String FAST = S + "delay 0 0;delay 1 0;";
    private static final String NO_FAULT = "0 at -1";

    // ---- the tape and the session

    private static void newObject() {
        says(1, "No session.");
        FarEditors x = new FarEditors();
        due("editors", x.has(0), 0);
        due("editor 0", x.editor(0, 0), NONE);
        due("the server's first letter", x.letter(NONE, 0), NONE);
        due("no act", x.put(0, 0, 1), NONE);
        due("no TICK", x.ticks(1), NONE);
        due("the seed is 1", x.seed(0), true);
        for (int what = 0; what <= 6; what++) {
            due("refused " + what, new FarEditors().status(what), 0);
        }
    }

    private static void feed() {
        says(2, "Twenty bytes come behind those on the tape, of each number the highest first: how many there are;");
        FarEditors x = told(S);
        due("on an empty tape", x.feed(0, 0, 0, 0, 0), 20);
        due("behind 20", x.feed(0, 0, 0, 0, 0), 40);
        x.end(1);
        due("behind 1", x.feed(0, 0, 0, 0, 0), 21);
        x.end(0);
        // the bytes 239, 26, 0, 0: any other order could not be SEEN; the numbers wrap around below 0
        due("a number below 0", x.feed(0xef1a0000, 0xef1aef1a, 0, 0x00010100, 0xef000002), 20);
        due("rows of these bytes", x.see(), 10);
        x.feed(0x00ef001a, 0, 0, 0, 0);
        due("bytes 0, 239", x.see(), NONE);
        x.feed(MIN, -1, MAX, 0, 0);
        x.end(1);
        x.session();
        due("byte 128", fault(x), "1 at 0");
        x.feed(0x74657874, 0x20616263, 0x20656469, 0x746f7273, 0x20323b20);
        due("\"text abc editors 2; \"", x.session(), 1);

        says(2, "NONE, refused (0), if there would be more than 1600.");
        x = new FarEditors();
        for (int i = 1; i <= 80; i++) {
            due("feed " + i, x.feed(0x20202020, 0x20202020, 0x20202020, 0x20202020, 0x20202020), 20 * i);
        }
        due("1620", x.feed(0, 0, 0, 0, 0), NONE);
        due("1600 are there", x.end(1600), true);
        x.end(1581);
        due("1601", x.feed(0, 0, 0, 0, 0), NONE);
        due("1581 are there", x.end(1582), false);
        x.end(1580);
        due("1600", x.feed(0x20202020, 0x20202020, 0x20202020, 0x20202020, 0x20202020), 1600);
        due("refused", x.status(0), 3);
        x.session();
        due("1600 blanks", fault(x), "1 at 1600");
    }

    private static void end() {
        says(3, "The tape has its first n bytes alone: true;");
        FarEditors x = new FarEditors();
        due("0 of 0", x.end(0), true);
        x.feed(0x74657874, 0x20612065, 0x6469746f, 0x72732032, 0x3b3b3b3b);
        due("20 of 20", x.end(20), true);
        due("19", x.end(19), true);
        due("17: the first ones", x.end(17), true);
        due("\"text a editors 2;\"", x.session(), 1);
        x.feed(0, 0, 0, 0, 0);
        due("0 of 20", x.end(0), true);
        due("none is left", x.end(1), false);
        x.feed(0x31202b61, 0x62203939, 0x39393939, 0, 0);
        x.end(4);
        due("\"1 +a\", not the b behind it", x.edit(0), 2);
        x.feed(0x2d393939, 0, 0, 0, 0);
        x.end(3);
        x.edit(0);
        due("\"-99\", not the third 9 behind it", fault(x), NO_FAULT);
        x.feed(0x74657874, 0x78787878, 0x78787878, 0, 0);
        x.end(4);
        x.session();
        due("\"text\", not the x behind it", fault(x), "1 at 4");

        says(3, "false, refused (0), if it has not so many, or n is below 0.");
        x = new FarEditors();
        due("1 of 0", x.end(1), false);
        x.feed(0x74657874, 0x20612065, 0x6469746f, 0x72732032, 0x3b202020);
        due("21 of 20", x.end(21), false);
        due("-1", x.end(-1), false);
        due("the greatest", x.end(MAX), false);
        due("the least", x.end(MIN), false);
        due("refused", x.status(0), 5);
        due("the tape stays", x.session(), 1);
    }

    private static void session() {
        says(4, "The tape (it goes) is THE SESSION: how many STATEMENTS;");
        FarEditors one = new FarEditors();
        due("1", session(one, S), 1);
        due("the tape has gone", one.end(1), false);
        due("2", session(one, S + "on 0;"), 2);
        due("60", session(one, S + times("on 0;", 59)), 60);
        due("1600 bytes", session(one, S + times("on 0;", 59) + times(" ", 1600 - 19 - 295)), 60);
        due("1600 bytes, all before the last ;", session(one, S + times(" ", 1600 - 19 - 5) + "on 0;"), 2);

        says(4, "NONE, refused (1), with a FAULT (all stays; one without a STATEMENT has FAULT 1 at its length).");
        FarEditors x = told(S + "ties 1;");
        x.put(0, 0, 24);
        x.ticks(1);
        x.seed(0);
        see(x, 0, 24, 1, 1);
        String[] bad = {"", " ", "\n\n\n", "x", S + "on 2;", S + "on 0;on", "text pq editors 3;tick 99;tick 0;"};
        for (String text : bad) {
            due("refused: " + text, session(x, text), NONE);
            due("a FAULT of " + text, x.fault(0) > 0, true);
            due("the tape has gone", x.end(1), false);
        }
        due("refused", x.status(1), bad.length);
        due("all stays", text(x, NONE) + x.has(0) + x.has(3) + x.has(4) + x.has(7) + x.has(8) + x.has(10), "xabc211221");
        x.back();
        due("ACTS can be taken back", text(x, NONE) + x.has(8), "abc1");
        dueFault("", "1 at 0");
        dueFault(" ", "1 at 1");
        dueFault("\n \n", "1 at 3");
        dueFault(times(" ", 1600), "1 at 1600");

        says(4, "Without one all is as told, nothing is SEEN or can be taken back; the seed stays.");
        x.ticks(9);
        x.cut(1, 0, 2);
        x.ticks(9);
        String busy = "text abc editors 3;ties 1;delay 0 4;delay 1 5;edit 0 +x;edit 0 -1;edit 0 1 +y;cursor 0 2;mark 0 0 1 1;mark 0 1 1 2;"
            + "edit 1 -2;tick 5;off 0;edit 1 +z;tick 4;edit 1 +w;";
        session(x, busy);
        x.undo(0);
        due("END of the one", letters(k -> told(busy).ends(0, k)), "xc");
        due("END of the one, asked", x.ends(0, NONE), 2);
        session(x, "text pq editors 3;delay 2 3;");
        due("END of the other", letters(k -> x.ends(0, k)), "pq");
        for (int e = 0; e < 3; e++) {
            int[] fresh = {2, 0, 0, 0, 0, 0, 0, 0, 1, e == 2 ? 3 : 1, 0, NONE};
            for (int what = 0; what <= 11; what++) {
                due("editor(" + e + ", " + what + ")", x.editor(e, what), fresh[what]);
            }
            due("share", x.share(e, 0) + x.share(e, 1), 0);
        }
        due("as told", text(x, NONE) + x.has(0) + x.has(1) + x.has(3) + x.has(4) + x.has(5) + x.has(6) + x.has(10), "pq3000000");
        due("editors as told", text(x, 0) + text(x, 2) + x.editor(0, 1) + x.editor(0, 3) + x.editor(0, 6) + x.editor(2, 9), "pqpq0003");
        due("nothing SEEN", x.has(7), 0);
        due("no ACTS", x.has(8), 0);
        due("back", x.back(), false);
        due("what was refused stays", x.status(1), bad.length);
        session(x, S);
        due("by the seed told before", x.chance(1) + text(x, 1), "1abcw");
    }

    private static void fault() {
        says(5, "Of the latest session() or edit() that read its tape: its FAULT (what 0; 0 without, and ahead of any),"
            + " its place (1; NONE without).");
        FarEditors x = new FarEditors();
        due("ahead of any", fault(x), NO_FAULT);
        edit(x, 0, "?");
        due("edit() without a session read nothing", fault(x), NO_FAULT);
        session(x, "text abc editors 2;tick 0;");
        due("of a session", fault(x), "2 at 24");
        edit(x, 0, "?");
        due("the tape was not read", fault(x), "2 at 24");
        see(x, 0);
        due("see() tells none", fault(x), "2 at 24");
        session(x, S);
        due("without", fault(x), NO_FAULT);
        edit(x, 1, "1 ?");
        due("of an edit", fault(x), "1 at 2");
        edit(x, 2, "+x");
        edit(x, -1, "+x");
        due("of no such editor", fault(x), "1 at 2");
        edit(x, 1, "4 +x");
        due("of one that can't be, without", fault(x), NO_FAULT);
        session(x, "");
        due("place 0", fault(x), "1 at 0");
        x.put(0, 0, 0);
        x.back();
        due("of the latest still", fault(x), "1 at 0");

        says(5, "NONE for another what.");
        for (int what : new int[] {2, -1, 5, MAX, MIN}) {
            due("what " + what, x.fault(what), NONE);
        }
    }

    // ---- what there is

    private static void has() {
        says(6, "How many there are: 0 EDITORS, 1 OPS in the server's row, 2 letters of its TEXT, 3 TICK, 4 EDITS,"
            + " 5 letters PUT by them, 6 on their way, from and to EDITORS, 7 rows SEEN, 8 ACTS that can be taken back,"
            + " 9 whether QUIET, 10 ties.");
        FarEditors x = told("text abc editors 4;ties 2;");
        int[] fresh = {4, 0, 3, 0, 0, 0, 0, 0, 0, 1, 2};
        for (int what = 0; what <= 10; what++) {
            due("has(" + what + ") of a fresh session", x.has(what), fresh[what]);
        }
        edit(x, 0, "+xy -1");
        x.cut(1, 0, 1);
        see(x, new int[32]);
        int[] sent = {4, 0, 3, 0, 2, 2, 2, 16, 2, 0, 2};
        for (int what = 0; what <= 10; what++) {
            due("has(" + what + ") of what was sent", x.has(what), sent[what]);
        }
        x.ticks(1);
        int[] taken = {4, 2, 4, 1, 2, 2, 8, 16, 3, 0, 2};
        for (int what = 0; what <= 10; what++) {
            due("has(" + what + ") of what was taken", x.has(what), taken[what]);
        }
        x = told("text a editors 2;edit 0 -1;tick 9;");
        due("no letters", x.has(2), 0);
        x = told("text " + times("k", 40) + " editors 2;" + times("edit 0 +" + times("p", 20) + ";", 10) + "tick 9;");
        due("240 letters", x.has(2) + " " + x.has(5), "240 200");

        says(6, "NONE for others. (Ahead of a session 0 each, 1 of 9.)");
        for (int what : new int[] {11, -1, 99, MAX, MIN}) {
            due("has(" + what + ")", x.has(what), NONE);
            due("has(" + what + ") ahead of a session", new FarEditors().has(what), NONE);
        }
        x = new FarEditors();
        session(x, S + "?");
        for (int what = 0; what <= 10; what++) {
            due("has(" + what + ") ahead of a session", x.has(what), what == 9 ? 1 : 0);
        }
    }

    private static void editor() {
        says(7, "Of an EDITOR: 0 letters of its TEXT, 1 its REVISION, 2 CURSOR, 3 whether something is PENDING,"
            + " 4 whether there is a BUFFER, 5 MARKS, 6 UNDOS, 7 DONES, 8 whether ON, 9 delay, 10 on their way to it,"
            + " 11 TICKS left of what is on its way from it (NONE without).");
        FarEditors x = told("text abc editors 4;");
        int[] fresh = {3, 0, 0, 0, 0, 0, 0, 0, 1, 1, 0, NONE};
        for (int what = 0; what <= 11; what++) {
            due("editor(3, " + what + ") of a fresh session", x.editor(3, what), fresh[what]);
        }
        x = told(S + "delay 0 0;delay 1 9;edit 0 +x;tick 1;off 1;edit 1 -3;edit 1 +yz;cursor 1 2;" + times("mark 1 0 2 0;", 4));
        x.undo(1);
        x.undo(1);
        x.redo(1);
        int[] busy = {0, 0, 0, 1, 1, 4, 1, 1, 0, 9, 1, 9};
        for (int what = 0; what <= 11; what++) {
            due("editor(1, " + what + ") of a busy one", x.editor(1, what), busy[what]);
        }
        x = told(FAST + "edit 0 +x;");
        due("0 TICKS left", x.editor(0, 11), 0);
        x.ticks(1);
        due("none on its way from it", x.editor(0, 11), NONE);

        says(7, "NONE when there is none such, or for others.");
        for (int e : new int[] {-1, 2, 3, 4, MAX, MIN}) {
            due("editor(" + e + ", 0)", x.editor(e, 0), NONE);
        }
        for (int what : new int[] {-1, 12, MAX, MIN}) {
            due("editor(0, " + what + ")", x.editor(0, what), NONE);
        }
        due("without a session", new FarEditors().editor(0, 8), NONE);
    }

    private static void letter() {
        says(8, "The k-th letter (1 .. 26) of an EDITOR's TEXT (NONE: the server's);");
        FarEditors x = told("text az editors 2;edit 1 1 +m;");
        due("the first", x.letter(0, 0), 1);
        due("the last", x.letter(0, 1), 26);
        due("of the one who put m", x.letter(1, 1), 13);
        due("the server's", x.letter(NONE, 1), 26);
        x = told("text " + times("k", 40) + " editors 2;" + times("edit 0 +" + times("p", 20) + ";", 10) + "tick 9;");
        due("the 240th", x.letter(0, 239) + " " + x.letter(1, 239) + " " + x.letter(NONE, 239), "11 11 11");

        says(8, "NONE when there is none such.");
        due("the 241st", x.letter(0, 240) + " " + x.letter(NONE, 240), "-1 -1");
        int[][] none = {{0, -1}, {NONE, -1}, {0, MAX}, {0, MIN}, {NONE, MAX}, {NONE, MIN}, {2, 0}, {-2, 0}, {MAX, 0}, {MIN, 0}};
        for (int[] one : none) {
            due("letter(" + one[0] + ", " + one[1] + ")", x.letter(one[0], one[1]), NONE);
        }
        x = told("text a editors 2;edit 0 -1;");
        due("of no letters", x.letter(0, 0), NONE);
        due("without a session", new FarEditors().letter(NONE, 0) + " " + new FarEditors().letter(0, 0), "-1 -1");
    }

    private static void step() {
        says(9, "Of the k-th STEP of an OP of an EDITOR, PENDING (which 0), the BUFFER (1), the latest of UNDOS (2), of DONES (3):"
            + " what 0: 0 KEEP, 1 PUT, 2 CUT; 1: of how many letters; from 2 on of a PUT the letters (1 .. 26).");
        FarEditors x = told("text abcd editors 2;edit 0 1 +az -2;edit 0 3 +q;edit 0 +w;");
        x.undo(0);
        due("PENDING", op(x, 0, 0), "1 +az -2 1");
        due("the BUFFER", op(x, 0, 1), "3 +q 1");
        due("the latest of UNDOS", op(x, 0, 2), "3 -1 1");
        due("the latest of DONES", op(x, 0, 3), "+w 5");
        due("of a KEEP", x.step(0, 0, 0, 0) + " " + x.step(0, 0, 0, 1), "0 1");
        due("of a PUT", x.step(0, 0, 1, 0) + " " + x.step(0, 0, 1, 1) + " " + x.step(0, 0, 1, 2) + " " + x.step(0, 0, 1, 3), "1 2 1 26");
        due("of a CUT", x.step(0, 0, 2, 0) + " " + x.step(0, 0, 2, 1), "2 2");
        FarEditors full = told("text a editors 2;" + times("edit 0 +" + times("p", 19) + "z;", 10));
        due("a PUT of 180 letters", full.step(0, 1, 0, 1), 180);
        due("the last of its letters", full.step(0, 1, 0, 181), 26);
        due("none behind it", full.step(0, 1, 0, 182), NONE);

        says(9, "NONE when there is none such, or for others.");
        int[][] none = {{0, 0, 4, 0}, {0, 0, -1, 0}, {0, 0, MAX, 0}, {0, 0, MIN, 0}, {0, 0, 0, 2}, {0, 0, 2, 2}, {0, 0, 1, 4},
            {0, 0, 1, -1}, {0, 0, 1, MAX}, {0, 0, 1, MIN}, {0, 4, 0, 0}, {0, -1, 0, 0}, {0, MAX, 0, 0}, {2, 0, 0, 0}, {-1, 0, 0, 0},
            {1, 0, 0, 0}, {1, 1, 0, 0}, {1, 2, 0, 0}, {1, 3, 0, 0}, {0, 1, 3, 0}, {0, 2, 3, 0}, {0, 3, 2, 0}};
        for (int[] n : none) {
            due("step(" + n[0] + ", " + n[1] + ", " + n[2] + ", " + n[3] + ")", x.step(n[0], n[1], n[2], n[3]), NONE);
        }
        due("without a session", new FarEditors().step(0, 0, 0, 0), NONE);
    }

    private static void row() {
        says(10, "Of an OP of the server's row (1 and on) the k-th STEP, as in step(); of k NONE: whose it is (what 0),"
            + " how many STEPS (1).");
        FarEditors x = told(FAST + "edit 0 1 +xy -2;edit 1 3 +z;tick 1;");
        due("OP 1", row(x, 1), "1 +xy -2");
        due("OP 2", row(x, 2), "3 +z");
        due("whose", x.row(1, NONE, 0) + " " + x.row(2, NONE, 0), "0 1");
        due("how many STEPS", x.row(1, NONE, 1) + " " + x.row(2, NONE, 1), "3 2");
        due("the letters of a PUT", x.row(1, 1, 2) + " " + x.row(1, 1, 3), "24 25");
        FarEditors empty = told("text a editors 2;edit 0 -1;edit 1 -1;tick 1;");
        due("no STEPS", empty.row(2, NONE, 1), 0);

        says(10, "NONE when there is none such, or for others.");
        int[][] none = {{0, NONE, 0}, {3, NONE, 0}, {-1, NONE, 0}, {MAX, NONE, 0}, {MIN, NONE, 0}, {1, NONE, 2}, {1, NONE, -1}, {1, NONE, MAX},
            {1, 3, 0}, {1, -2, 0}, {1, MAX, 0}, {1, MIN, 0}, {1, 0, 2}, {1, 2, 2}, {1, 1, 4}, {1, 1, -1}, {1, 0, MIN}, {0, 0, 0}, {3, 0, 0}};
        for (int[] n : none) {
            due("row(" + n[0] + ", " + n[1] + ", " + n[2] + ")", x.row(n[0], n[1], n[2]), NONE);
        }
        due("no STEP of none", empty.row(2, 0, 0), NONE);
        x.ticks(1);
        x.back();
        x.put(0, 0, 1);
        x.ticks(1);
        due("OP 3", x.row(3, NONE, 0), 0);
        x.back();
        due("OP 3, taken back", x.row(3, NONE, 0), NONE);
        due("without a session", new FarEditors().row(1, NONE, 0), NONE);
    }

    private static void mark() {
        says(11, "Of the k-th MARK of an EDITOR: 0 FROM, 1 TO, 2 grows.");
        FarEditors x = told(S + "mark 0 0 3 3;mark 0 1 2 0;mark 0 3 3 1;mark 0 0 0 2;");
        String all = "";
        for (int k = 0; k < 4; k++) {
            all += x.mark(0, k, 0) + "" + x.mark(0, k, 1) + x.mark(0, k, 2) + " ";
        }
        due("four", all, "033 120 331 002 ");

        says(11, "NONE when there is none such, or for others.");
        int[][] none = {{0, 4, 0}, {0, -1, 0}, {0, MAX, 0}, {0, MIN, 0}, {0, 1431655766, 0}, {0, 0, 3}, {0, 0, -1}, {0, 0, MAX}, {0, 3, 3},
            {1, 0, 0}, {2, 0, 0}, {-1, 0, 0}, {MAX, 0, 0}, {MIN, 0, 0}};
        for (int[] n : none) {
            due("mark(" + n[0] + ", " + n[1] + ", " + n[2] + ")", x.mark(n[0], n[1], n[2]), NONE);
        }
        x.clears(0, 0);
        due("one has gone", x.mark(0, 3, 0), NONE);
        due("without a session", new FarEditors().mark(0, 0, 0), NONE);
    }

    // ---- what there was

    private static void was() {
        says(12, "The k-th letter of the server's TEXT behind that many OPS of its row; k NONE: how many letters.");
        FarEditors x = told(FAST + "edit 0 -3;tick 1;edit 0 +xyz;tick 1;edit 1 3 +w;tick 1;");
        String[] all = {"abc", "", "xyz", "xyzw"};
        for (int i = 0; i < all.length; i++) {
            int n = i;
            due("behind " + n, letters(k -> x.was(n, k)), all[n]);
            due("letters behind " + n, x.was(n, NONE), all[n].length());
        }

        says(12, "NONE when there is none such, or without a session.");
        int[][] none = {{0, 3}, {1, 0}, {3, 4}, {4, 0}, {4, NONE}, {-1, NONE}, {-1, 0}, {0, -2}, {0, MIN}, {0, MAX}, {MAX, NONE}, {MIN, NONE}};
        for (int[] n : none) {
            due("was(" + n[0] + ", " + n[1] + ")", x.was(n[0], n[1]), NONE);
        }
        due("without a session", new FarEditors().was(0, NONE) + " " + new FarEditors().was(0, 0), "-1 -1");
        due("no OPS", told(S).was(0, NONE) + " " + told(S).was(1, NONE), "3 -1");
    }

    private static void by() {
        says(13, "The k-th letter of the server's TEXT is BY which OP (what 0), whose (1; NONE of told ones).");
        FarEditors x = told(FAST + "edit 1 3 +w;tick 1;edit 0 +v;tick 1;");
        due("OPS", "" + x.by(0, 0) + x.by(1, 0) + x.by(3, 0) + x.by(4, 0), "2001");
        due("whose", x.by(0, 1) + " " + x.by(1, 1) + " " + x.by(3, 1) + " " + x.by(4, 1), "0 -1 -1 1");

        says(13, "NONE when there is none such, or for others.");
        int[][] none = {{5, 0}, {5, 1}, {-1, 0}, {MAX, 0}, {MIN, 0}, {0, 2}, {0, -1}, {0, MAX}, {0, MIN}};
        for (int[] n : none) {
            due("by(" + n[0] + ", " + n[1] + ")", x.by(n[0], n[1]), NONE);
        }
        due("of no letters", told("text a editors 2;edit 0 -1;tick 1;").by(0, 0), NONE);
        due("without a session", new FarEditors().by(0, 0), NONE);
    }

    private static void share() {
        says(14, "How many letters of the server's TEXT are BY an EDITOR (what 0); how many letters that were not BY itself"
            + " the EDITOR's OPS CUT (1).");
        FarEditors x = told("text abc editors 3;delay 0 0;delay 1 0;edit 0 +xyz;tick 1;");
        due("at first", x.share(0, 0) + " " + x.share(1, 0) + " " + x.share(2, 0), "3 0 0");
        x.cut(0, 0, 1);
        x.ticks(1);
        due("its own", x.share(0, 0) + " " + x.share(0, 1), "2 0");
        x.cut(0, 1, 2);
        x.ticks(1);
        due("one of its own, a told one", x.share(0, 0) + " " + x.share(0, 1), "1 1");
        x.cut(1, 0, 3);
        due("not taken yet", x.share(1, 1), 0);
        x.ticks(1);
        due("one of another's, two told ones", x.share(0, 0) + " " + x.share(1, 1) + " " + x.share(0, 1), "0 3 1");
        x = told(FAST + "edit 0 -3;edit 1 -3;tick 1;");
        due("what was CUT already is not CUT", x.share(0, 1) + " " + x.share(1, 1), "3 0");
        // xabycz: x and z by editor 0, y by editor 1
        x = told(FAST + "edit 0 +x 3 +z;tick 1;edit 1 3 +y;tick 1;");
        int[] cuts = {0, 0, 1, 2, 3, 4};
        for (int i = 0; i < cuts.length; i++) {
            x.cut(0, i == 0 ? 5 : 0, 1);
            x.ticks(1);
            due("letters CUT one by one, z first", x.share(0, 1), cuts[i]);
        }
        x = told(FAST + "edit 0 +x 3 +z;tick 1;edit 1 3 +y;tick 1;edit 0 1 -1 1 -1;tick 1;");
        due("two STEPS: a and y", x.share(0, 1) + " " + x.share(1, 0), "2 0");

        says(14, "NONE when there is none such, or for others.");
        int[][] none = {{2, 0}, {-1, 0}, {-1, 1}, {MAX, 0}, {MIN, 1}, {0, 2}, {0, -1}, {0, MAX}, {0, MIN}};
        for (int[] n : none) {
            due("share(" + n[0] + ", " + n[1] + ")", x.share(n[0], n[1]), NONE);
        }
        due("without a session", new FarEditors().share(0, 0) + " " + new FarEditors().share(0, 1), "-1 -1");
    }

    private static void together() {
        says(15, "All OPS of the row from one on up to another one, composed: the k-th STEP, as in step();"
            + " k NONE: how many STEPS (what 1).");
        FarEditors x = told(FAST + "edit 0 +xy;tick 1;edit 1 -3;tick 1;edit 0 2 +zw;tick 1;");
        String[][] all = {{"+xy 3", "-1 2", "-1 2 +zw"}, {null, "-3 2", "-3 2 +zw"}, {null, null, "2 +zw"}};
        int[][] steps = {{2, 2, 3}, {0, 2, 3}, {0, 0, 2}};
        for (int i = 1; i <= 3; i++) {
            for (int j = i; j <= 3; j++) {
                int from = i;
                int to = j;
                due(from + " to " + to, op((k, what) -> x.together(from, to, k, what)), all[from - 1][to - 1]);
                due("STEPS of " + from + " to " + to, x.together(from, to, NONE, 1), steps[from - 1][to - 1]);
            }
        }
        due("the letters", x.together(1, 3, 2, 2) + " " + x.together(1, 3, 2, 3), "26 23");
        FarEditors empty = told("text a editors 2;edit 0 -1;tick 9;edit 1 +x;tick 9;edit 0 -1;tick 9;");
        due("no STEPS", empty.together(2, 3, NONE, 1), 0);

        says(15, "NONE when there are none such (from is 1 or more, no more than to), or for others.");
        int[][] none = {{0, 1, NONE, 1}, {-1, 1, NONE, 1}, {MIN, 3, NONE, 1}, {2, 1, NONE, 1}, {3, 2, 0, 0}, {1, 4, NONE, 1}, {4, 4, NONE, 1},
            {1, MAX, NONE, 1}, {MAX, MAX, NONE, 1}, {1, 0, NONE, 1}, {1, 3, NONE, 0}, {1, 3, NONE, 2}, {1, 3, NONE, -1}, {1, 3, -2, 1},
            {1, 3, 3, 0}, {1, 3, MAX, 0}, {1, 3, MIN, 0}, {1, 3, 0, 2}, {1, 3, 2, 4}, {1, 3, 0, -1}, {1, 3, 2, MAX}};
        for (int[] n : none) {
            due("together(" + n[0] + ", " + n[1] + ", " + n[2] + ", " + n[3] + ")", x.together(n[0], n[1], n[2], n[3]), NONE);
        }
        due("without a session", new FarEditors().together(1, 1, NONE, 1), NONE);
        due("no OPS", told(S).together(1, 1, NONE, 1), NONE);
    }

    private static void without() {
        says(16, "The server's TEXT WITHOUT an OP of its row: the k-th letter; k NONE: how many letters.");
        FarEditors x = told(FAST + "edit 0 +xy;tick 1;edit 1 -3;tick 1;edit 0 2 +z;tick 1;");
        String[] all = {"bcz", "xyabcz", "bc"};
        for (int i = 1; i <= 3; i++) {
            int op = i;
            due("OP " + op, letters(k -> x.without(op, k)), all[op - 1]);
            due("letters without OP " + op, x.without(op, NONE), all[op - 1].length());
        }
        FarEditors one = told("text a editors 2;edit 0 -1;edit 1 +z;tick 9;edit 1 -1;tick 9;");
        due("of no letters", one.without(1, NONE) + letters(k -> one.without(1, k)), "1a");
        FarEditors two = told("text a editors 2;edit 0 -1;tick 9;edit 1 +z;tick 9;");
        due("no letters but one", two.without(2, NONE) + " " + two.without(2, 0), "0 -1");

        says(16, "NONE when there is none such (without a session there is none).");
        int[][] none = {{0, NONE}, {4, NONE}, {-1, NONE}, {MAX, NONE}, {MIN, NONE}, {1, 3}, {2, 6}, {1, -2}, {1, MAX}, {1, MIN}, {0, 0}, {4, 0}};
        for (int[] n : none) {
            due("without(" + n[0] + ", " + n[1] + ")", x.without(n[0], n[1]), NONE);
        }
        due("without a session", new FarEditors().without(1, NONE) + " " + new FarEditors().without(0, NONE), "-1 -1");
        due("no OPS", told(S).without(1, NONE), NONE);
    }

    // ---- ahead, and orders

    private static void quiet() {
        says(17, "Behind how many TICKS AHEAD (0: now; 99 at most) it is QUIET;");
        FarEditors x = told(S + "delay 0 9;delay 1 9;");
        due("now", x.quiet(), 0);
        x.put(0, 0, 1);
        due("there and back", x.quiet(), 18);
        x.put(0, 0, 1);
        due("and the BUFFER", x.quiet(), 36);
        x.ticks(35);
        due("one TICK", x.quiet(), 1);
        x.ticks(1);
        due("now", x.quiet(), 0);
        // a BUFFER goes there and back but once: 36 TICKS are the most that there can be
        due("nothing is done by asking", x.has(3) + x.has(8), 36 + 4);

        says(17, "NONE when it is not, or without a session.");
        due("to one that is off", told(S + "off 1;edit 0 +x;").quiet(), NONE);
        due("from one that is off", told(S + "off 0;edit 0 +x;").quiet(), NONE);
        due("one that is off, nothing on its way", told(S + "off 0;off 1;").quiet(), 0);
        x = told(S + times("tick 99;", 10) + "tick 7;edit 0 +x;");
        due("2 TICKS from 997", x.quiet(), 2);
        x.ticks(1);
        x.put(1, 0, 1);
        due("2 TICKS from 998", x.quiet(), NONE);
        due("without a session", new FarEditors().quiet(), NONE);
    }

    private static void later() {
        says(18, "Of the server's TEXT behind n TICKS AHEAD (0 .. 99) the k-th letter; k NONE: how many letters.");
        FarEditors x = told(S + "delay 0 9;edit 0 +x;");
        due("0", letters(k -> x.later(0, k)) + x.later(0, NONE), "abc3");
        due("8", letters(k -> x.later(8, k)) + x.later(8, NONE), "abc3");
        due("9", letters(k -> x.later(9, k)) + x.later(9, NONE), "xabc4");
        due("99", letters(k -> x.later(99, k)) + x.later(99, NONE), "xabc4");
        due("nothing is done by asking", x.has(1) + x.has(3), 0);

        says(18, "NONE when there is none such, n can't be, or without a session.");
        int[][] none = {{-1, NONE}, {100, NONE}, {MAX, NONE}, {MIN, NONE}, {100, 0}, {-1, 0}, {0, 3}, {9, 4}, {0, -2}, {0, MAX}, {0, MIN}};
        for (int[] n : none) {
            due("later(" + n[0] + ", " + n[1] + ")", x.later(n[0], n[1]), NONE);
        }
        FarEditors late = told(S + times("tick 99;", 9) + "tick 10;");
        due("98 from TICK 901", late.later(98, NONE), 3);
        due("99 from TICK 901", late.later(99, NONE), NONE);
        due("99 from TICK 900", told(S + times("tick 90;", 10)).later(99, NONE), 3);
        due("without a session", new FarEditors().later(0, NONE) + " " + new FarEditors().later(0, 0), "-1 -1");
    }

    private static void orders() {
        says(19, "How many ORDERS there are (what 0; 1 with nobody), how many unlike ENDS (1).");
        int[] many = {1, 1, 2, 6, 24};
        FarEditors x = told("text ab editors 4;ties 2;");
        for (int n = 0; n <= 4; n++) {
            due("ORDERS of " + n, x.orders(0), many[n]);
            due("unlike ENDS of " + n, x.orders(1), many[n]);
            if (n < 4) {
                x.put(n, 1, 5 + n);
            }
        }
        due("ENDS all alike", told("text ab editors 4;edit 0 +x;edit 1 +y;edit 2 -1;edit 3 -2;").orders(1), 1);
        x = told("text ab editors 3;ties 2;edit 0 1 +x;edit 1 1 +x;edit 2 1 +y;");
        due("three unlike of six", x.orders(0) + " " + x.orders(1), "6 3");

        says(19, "NONE for others, or without a session.");
        for (int what : new int[] {2, -1, MAX, MIN}) {
            due("orders(" + what + ")", x.orders(what), NONE);
        }
        due("without a session", new FarEditors().orders(0) + " " + new FarEditors().orders(1), "-1 -1");
    }

    private static void ends() {
        says(20, "The k-th letter of the END by the n-th of ORDERS; k NONE: how many letters.");
        FarEditors x = told("text ab editors 2;ties 2;edit 0 1 +x;edit 1 1 +yz -1;");
        due("the first", letters(k -> x.ends(0, k)) + x.ends(0, NONE), "axyz4");
        due("the last", letters(k -> x.ends(1, k)) + x.ends(1, NONE), "ayzx4");
        FarEditors none = told("text a editors 2;edit 0 -1;tick 9;");
        due("with nobody", none.ends(0, NONE), 0);

        says(20, "NONE when there is none such, or without a session.");
        int[][] others = {{2, NONE}, {2, 0}, {-1, NONE}, {-1, 0}, {0, 4}, {1, 4}, {0, -2}, {MAX, NONE}, {MIN, NONE}, {0, MAX}, {0, MIN}};
        for (int[] n : others) {
            due("ends(" + n[0] + ", " + n[1] + ")", x.ends(n[0], n[1]), NONE);
        }
        due("with nobody a second", none.ends(1, NONE), NONE);
        due("of no letters", none.ends(0, 0), NONE);
        due("without a session", new FarEditors().ends(0, NONE) + " " + new FarEditors().ends(0, 0), "-1 -1");
        FarEditors four = told("text ab editors 4;edit 0 +x;edit 1 +y;edit 2 -1;edit 3 -2;");
        due("the 24th and no 25th", four.ends(23, NONE) + " " + four.ends(24, NONE), "2 -1");
        four.ticks(1);
        due("with nobody any more", four.ends(1, NONE), NONE);
        four.back();
        due("taken back, the 24th", four.ends(23, NONE), 2);
        FarEditors again = told(S);
        for (int i = 1; i <= 9; i++) {
            again.put(0, 0, i);
            due("the END by what is on its way now", again.ends(0, 0), i);
            again.back();
        }
    }

    private static int[] rows(int n, int place, int letter) {
        int[] rows = new int[2 * n];
        for (int i = 0; i < n; i++) {
            rows[2 * i] = place;
            rows[2 * i + 1] = letter;
        }
        return rows;
    }

    private static void see() {
        says(21, "The tape (it goes) tells what is SEEN, 1 to 16 rows of two bytes (place 0 .. 239; letter 0 .. 26): how many rows;");
        FarEditors x = told(S);
        due("1", see(x, 0, 1), 1);
        due("the tape has gone", x.end(1), false);
        due("16", see(x, rows(16, 0, 1)), 16);
        due("SEEN", x.has(7), 16);
        due("fewer", see(x, rows(3, 0, 1)), 3);
        due("SEEN", x.has(7), 3);
        due("place 0, letter 0", see(x, 0, 0), 1);
        due("place 239, letter 26", see(x, 239, 26), 1);
        due("the 16th row counts", see(x, concat(rows(15, 0, 1), 1, 3)) + " " + x.fits(NONE), "16 0");
        due("the first row counts", see(x, concat(rows(1, 0, 2), 1, 2)) + " " + x.fits(NONE), "2 0");
        due("no ACT", x.has(8), 0);

        says(21, "NONE, refused (1), all staying, when it is none such, or without a session.");
        see(x, 0, 1, 1, 2);
        int[][] bad = {{}, {0}, {0, 1, 0}, rows(17, 0, 1), {240, 0}, {255, 0}, {0, 27}, {0, 255}, {0, 1, 240, 0}, {0, 1, 0, 27},
            concat(rows(16, 0, 1), 0)};
        for (int i = 0; i < bad.length; i++) {
            due("refused row " + i, see(x, bad[i]), NONE);
            due("the tape has gone", x.end(1), false);
            due("what is SEEN stays", x.has(7) + " " + x.fits(NONE), "2 1");
        }
        due("refused", x.status(1), bad.length);
        FarEditors none = new FarEditors();
        due("without a session", see(none, 0, 1), NONE);
        due("nothing is SEEN", none.has(7) + " " + none.status(1), "0 1");
        due("the tape has gone", none.end(1), false);
    }

    private static int[] concat(int[] a, int... b) {
        int[] all = java.util.Arrays.copyOf(a, a.length + b.length);
        System.arraycopy(b, 0, all, a.length, b.length);
        return all;
    }

    private static void fits() {
        says(22, "FITS by what is SEEN (all, if nothing is): how many (k NONE), which of ORDERS is the k-th, rising.");
        FarEditors x = told("text ab editors 3;ties 2;edit 0 1 +x;edit 1 1 +y;edit 2 1 +z;");
        due("all", letters(k -> x.fits(k) + (x.fits(k) == NONE ? 0 : 1)) + x.fits(NONE), "abcdef6");
        see(x, 3, 24);
        due("those that end with x", letters(k -> x.fits(k) + (x.fits(k) == NONE ? 0 : 1)) + x.fits(NONE), "df2");
        see(x, 3, 24, 1, 26);
        due("the last alone", x.fits(0) + " " + x.fits(NONE), "5 1");
        see(x, 3, 24, 1, 24);
        due("none", x.fits(NONE), 0);
        see(x, 5, 0);
        due("all", x.fits(NONE), 6);
        due("with nobody one", told(S).fits(NONE) + " " + told(S).fits(0), "1 0");

        says(22, "NONE when there is none such, or without a session.");
        for (int k : new int[] {6, -2, MAX, MIN}) {
            due("fits(" + k + ")", x.fits(k), NONE);
        }
        see(x, 3, 24);
        due("a third of two", x.fits(2), NONE);
        see(x, 0, 0);
        due("the first of none", x.fits(0), NONE);
        due("without a session", new FarEditors().fits(NONE) + " " + new FarEditors().fits(0), "-1 -1");
    }

    private static void tells() {
        says(23, "TELLING: the place (what 0), how many FITS are left at the most (1).");
        FarEditors x = told("text ab editors 3;ties 2;edit 0 1 +x;edit 1 1 +y;edit 2 1 +z;");
        due("of six", x.tells(0) + " " + x.tells(1), "1 2");
        see(x, 1, 24);
        due("of two", x.tells(0) + " " + x.tells(1), "2 1");
        see(x, 1, 24, 2, 25);
        due("of one", x.tells(0) + " " + x.tells(1), "0 1");
        see(x, 0, 1);
        x.ticks(1);
        due("of one that is left of six", x.tells(0) + " " + x.tells(1), "0 1");
        x.back();

        says(23, "NONE without FITS, for others, or without a session.");
        for (int what : new int[] {2, -1, MAX, MIN}) {
            due("tells(" + what + ")", x.tells(what), NONE);
        }
        see(x, 0, 0);
        due("without FITS", x.tells(0) + " " + x.tells(1), "-1 -1");
        due("without a session", new FarEditors().tells(0) + " " + new FarEditors().tells(1), "-1 -1");
    }

    // ---- acts

    private static void edit() {
        says(24, "The tape (it goes) is an OP of an EDITOR's TEXT, an EDIT: how many letters it has then;");
        FarEditors x = told(S);
        due("a PUT", edit(x, 0, "1 +xy"), 5);
        due("the tape has gone", x.end(1), false);
        due("a CUT", edit(x, 0, "4 -1"), 4);
        due("both", edit(x, 0, "+p -4"), 1);
        due("no letters", edit(x, 0, "-1"), 0);
        due("of no letters", edit(x, 0, "+q"), 1);
        due("of another, from its own TEXT", edit(x, 1, "3 +z"), 4);

        says(24, "NONE, refused (2), with a FAULT, when there is no such EDITOR (the tape is not read), or the EDIT can't be.");
        x = told(S);
        String[] bad = {"", "?", "+", "0", times("+a", 41), "4", "3", "-4", "3 -1", "4 +x"};
        for (String one : bad) {
            due("refused: " + one, edit(x, 0, one), NONE);
            due("the tape has gone", x.end(1), false);
        }
        edit(x, 0, "?");
        for (int e : new int[] {2, -1, MAX, MIN}) {
            due("editor " + e, edit(x, e, "0"), NONE);
            due("the tape has gone", x.end(1), false);
            due("it was not read", fault(x), "1 at 0");
        }
        due("refused", x.status(2), bad.length + 5);
        due("all stays", x.has(4) + x.has(8) + x.editor(0, 6), 0);
        due("without a session", edit(new FarEditors(), 0, "+x"), NONE);
    }

    private static void put() {
        says(25, "A letter (1 .. 26) is PUT at a place, an EDIT: how many letters there are then;");
        FarEditors x = told(S);
        due("ahead of all", x.put(0, 0, 1), 4);
        due("behind all", x.put(0, 4, 26), 5);
        due("the TEXT", text(x, 0), "aabcz");
        FarEditors y = told("text abcd editors 2;");
        y.put(0, 1, 1);
        y.put(1, 4, 1);
        due("what is ahead and what is behind is KEPT", op(y, 0, 0) + ", " + op(y, 1, 0), "1 +a 3, 4 +a");
        y.ticks(9);
        due("in the end", textOfAll(y), "aabcda");
        due("EDITS", x.has(4) + " " + x.has(5) + " " + x.has(8) + " " + x.editor(0, 6), "2 2 2 2");
        x = told("text a editors 2;edit 0 -1;");
        due("of no letters", x.put(0, 0, 1), 1);

        says(25, "NONE, refused (2), when it can't be, or there is none such.");
        x = told(S);
        int[][] bad = {{0, 4, 1}, {0, -1, 1}, {0, MAX, 1}, {0, MIN, 1}, {0, 0, 0}, {0, 0, 27}, {0, 0, -1}, {0, 0, MAX}, {0, 0, MIN},
            {2, 0, 1}, {-1, 0, 1}, {MAX, 0, 1}, {MIN, 0, 1}};
        for (int[] n : bad) {
            due("put(" + n[0] + ", " + n[1] + ", " + n[2] + ")", x.put(n[0], n[1], n[2]), NONE);
        }
        due("refused", x.status(2), bad.length);
        due("all stays", text(x, 0) + x.has(8), "abc0");
        due("without a session", new FarEditors().put(0, 0, 1), NONE);
    }

    private static void cut() {
        says(26, "n letters (1 or more) are CUT from a place on, an EDIT: how many there are then;");
        FarEditors x = told("text abcdef editors 2;");
        due("the first", x.cut(0, 0, 1), 5);
        due("the last", x.cut(0, 4, 1), 4);
        due("two between", x.cut(0, 1, 2), 2);
        due("the TEXT", text(x, 0), "be");
        FarEditors y = told("text abcd editors 2;");
        y.cut(0, 1, 2);
        y.cut(1, 3, 1);
        due("what is ahead and what is behind is KEPT", op(y, 0, 0) + ", " + op(y, 1, 0), "1 -2 1, 3 -1");
        due("all", x.cut(0, 0, 2), 0);
        due("EDITS", x.has(4) + " " + x.has(5) + " " + x.has(8) + " " + x.editor(0, 6), "4 0 4 4");

        says(26, "NONE, refused (2), when it can't be, or there is none such.");
        due("of no letters", x.cut(0, 0, 1), NONE);
        x = told(S);
        int[][] bad = {{0, 0, 0}, {0, 0, -1}, {0, 0, 4}, {0, 2, 2}, {0, 3, 1}, {0, 3, 0}, {0, -1, 1}, {0, -1, 2}, {0, MAX, 1}, {0, 1, MAX},
            {0, MAX, MAX}, {0, MIN, MIN}, {0, MIN, 1}, {0, 1, MIN}, {2, 0, 1}, {-1, 0, 1}, {MAX, 0, 1}, {MIN, 0, 1}};
        for (int[] n : bad) {
            due("cut(" + n[0] + ", " + n[1] + ", " + n[2] + ")", x.cut(n[0], n[1], n[2]), NONE);
        }
        due("refused", x.status(2), bad.length);
        due("all stays", text(x, 0) + x.has(8), "abc0");
        due("without a session", new FarEditors().cut(0, 0, 1), NONE);
    }

    private static void type() {
        says(27, "A letter (1 .. 26) is PUT at the CURSOR, or with 0 the one ahead of the CURSOR is CUT, an EDIT: the CURSOR then;");
        FarEditors x = told(S);
        due("1, ahead of all", x.type(0, 1), 1);
        due("26", x.type(0, 26), 2);
        due("the TEXT", text(x, 0), "azabc");
        due("0", x.type(0, 0), 1);
        due("0, the first letter", x.type(0, 0), 0);
        x.cursor(0, 3);
        due("behind all", x.type(0, 26), 4);
        due("0, the last letter", x.type(0, 0), 3);
        due("the TEXT", text(x, 0), "abc");
        due("EDITS", x.has(4) + " " + x.has(5) + " " + x.has(8) + " " + x.editor(0, 6), "6 3 7 6");

        says(27, "NONE, refused (2), when it can't be, or there is none such.");
        x = told(S);
        int[][] bad = {{0, 0}, {0, -1}, {0, 27}, {0, MAX}, {0, MIN}, {2, 1}, {-1, 1}, {MAX, 1}, {MIN, 0}, {2, 0}};
        for (int[] n : bad) {
            due("type(" + n[0] + ", " + n[1] + ")", x.type(n[0], n[1]), NONE);
        }
        due("refused", x.status(2), bad.length);
        due("all stays", text(x, 0) + x.editor(0, 2) + x.has(8), "abc00");
        due("without a session", new FarEditors().type(0, 1), NONE);
        x = told("text a editors 2;edit 0 -1;");
        due("0, of no letters", x.type(0, 0), NONE);
        x = told(S + times("edit 0 +" + times("q", 20) + ";", 10) + "cursor 0 5;");
        due("the 201st letter", x.type(0, 1), NONE);
        due("the CURSOR stays", x.editor(0, 2), 5);
        due("0", x.type(0, 0), 4);
    }

    private static void cursor() {
        says(28, "The CURSOR of an EDITOR is at a place (0 .. its letters): true;");
        FarEditors x = told(S);
        due("3", x.cursor(0, 3), true);
        due("0", x.cursor(0, 0), true);
        due("1, of another", x.cursor(1, 1), true);
        due("CURSORS", x.editor(0, 2) + " " + x.editor(1, 2) + " " + x.has(8), "0 1 3");

        says(28, "false, refused (3), when it is, it can't be, or there is none such.");
        int[][] bad = {{0, 0}, {1, 1}, {0, 4}, {0, -1}, {0, MAX}, {0, MIN}, {2, 0}, {2, 1}, {-1, 1}, {MAX, 1}, {MIN, 1}};
        for (int[] n : bad) {
            due("cursor(" + n[0] + ", " + n[1] + ")", x.cursor(n[0], n[1]), false);
        }
        due("refused", x.status(3), bad.length);
        due("all stays", x.editor(0, 2) + " " + x.editor(1, 2) + " " + x.has(8), "0 1 3");
        due("without a session", new FarEditors().cursor(0, 1), false);
        x = told("text a editors 2;edit 0 -1;");
        due("of no letters", x.cursor(0, 1) || x.cursor(0, 0), false);
    }

    private static void marks() {
        says(29, "A MARK more of an EDITOR (4 at most; FROM no more than TO, both 0 .. its letters; grows 0 .. 3): which it is;");
        FarEditors x = told(S);
        due("the first, all letters", x.marks(0, 0, 3, 0), 0);
        due("the second, at 0", x.marks(0, 0, 0, 3), 1);
        due("the third, at the end", x.marks(0, 3, 3, 1), 2);
        due("the fourth", x.marks(0, 1, 2, 2), 3);
        due("another's first", x.marks(1, 1, 1, 0), 0);
        due("ACTS", x.has(8), 5);

        says(29, "NONE, refused (3), when it can't be, or there is none such.");
        due("a fifth", x.marks(0, 0, 0, 0), NONE);
        int[][] bad = {{1, 2, 1, 0}, {1, 0, 4, 0}, {1, 4, 4, 0}, {1, -1, 0, 0}, {1, -1, -1, 0}, {1, 0, -1, 0}, {1, 0, 0, 4}, {1, 0, 0, -1},
            {1, 0, MAX, 0}, {1, MIN, 0, 0}, {1, MAX, MAX, 0}, {1, 0, 0, MAX}, {1, 0, 0, MIN}, {2, 0, 0, 0}, {-1, 0, 0, 0}, {MAX, 0, 0, 0}};
        for (int[] n : bad) {
            due("marks(" + n[0] + ", " + n[1] + ", " + n[2] + ", " + n[3] + ")", x.marks(n[0], n[1], n[2], n[3]), NONE);
        }
        due("refused", x.status(3), bad.length + 1);
        due("all stays", x.editor(0, 5) + " " + x.editor(1, 5) + " " + x.has(8), "4 1 5");
        x.clears(0, 3);
        due("one has gone: the fourth again", x.marks(0, 0, 0, 0), 3);
        due("without a session", new FarEditors().marks(0, 0, 0, 0), NONE);
    }

    private static void clears() {
        says(30, "The k-th MARK of an EDITOR goes (those behind it are one less): true;");
        FarEditors x = told(S + "mark 0 0 0 0;mark 0 1 1 1;mark 0 2 2 2;mark 0 3 3 3;mark 1 1 2 3;");
        due("one between", x.clears(0, 1), true);
        due("are left", "" + x.mark(0, 0, 2) + x.mark(0, 1, 2) + x.mark(0, 2, 2) + x.editor(0, 5), "0233");
        due("the last", x.clears(0, 2), true);
        due("the first", x.clears(0, 0), true);
        due("is left", x.mark(0, 0, 0) + "" + x.mark(0, 0, 1) + x.mark(0, 0, 2) + x.editor(0, 5), "2221");
        due("another's stays", x.mark(1, 0, 1), 2);
        due("the only one", x.clears(0, 0), true);
        due("ACTS", x.has(8), 4);

        says(30, "false, refused (3), when there is none such.");
        due("of none", x.clears(0, 0), false);
        int[][] bad = {{1, 1}, {1, -1}, {1, MAX}, {1, MIN}, {1, 4}, {2, 0}, {-1, 0}, {MAX, 0}, {MIN, 0}};
        for (int[] n : bad) {
            due("clears(" + n[0] + ", " + n[1] + ")", x.clears(n[0], n[1]), false);
        }
        due("refused", x.status(3), bad.length + 1);
        due("all stays", x.editor(1, 5) + " " + x.has(8), "1 4");
        due("without a session", new FarEditors().clears(0, 0), false);
    }

    private static void undo() {
        says(31, "undo of an EDITOR: how many letters its TEXT has then;");
        FarEditors x = told(S);
        x.cut(0, 0, 3);
        due("all that was CUT", x.undo(0), 3);
        x.put(1, 0, 1);
        due("of another", x.undo(1), 3);
        x = hundred();
        String before = text(x, 0);
        edit(x, 0, "-99");
        due("99 letters", x.undo(0), 100);
        due("as before", text(x, 0), before);
        x = told("text a editors 2;edit 0 -1;edit 0 +xy;");
        due("to no letters", x.undo(0), 0);
        due("and on", x.undo(0), 1);

        says(31, "NONE, refused (2), when there is nothing that would change something (all stays), the EDIT can't be, or there is none such.");
        due("no more", x.undo(0), NONE);
        due("another's none", x.undo(1), NONE);
        for (int e : new int[] {2, -1, MAX, MIN}) {
            due("undo(" + e + ")", x.undo(e), NONE);
        }
        due("refused", x.status(2), 6);
        due("all stays", text(x, 0) + x.editor(0, 7) + x.has(8), "a22");
        x = told(FAST + "edit 0 +x;tick 1;edit 1 -1;tick 1;");
        due("nothing that would change something", x.undo(0), NONE);
        due("all stays", x.editor(0, 6) + " " + x.editor(0, 7) + " " + x.has(4) + " " + x.has(8), "1 0 2 0");
        x = told("text abc editors 2;edit 0 -1;" + times("edit 1 +" + times("q", 20) + ";", 10));
        due("a letter too many", x.undo(0), NONE);
        due("all stays", x.editor(0, 6) + " " + x.editor(0, 7) + " " + x.has(4) + " " + x.has(8), "1 0 11 0");
        due("without a session", new FarEditors().undo(0), NONE);
    }

    private static void redo() {
        says(32, "redo of an EDITOR: likewise.");
        FarEditors x = told(S);
        x.cut(0, 0, 3);
        x.undo(0);
        due("to no letters", x.redo(0), 0);
        due("no more", x.redo(0), NONE);
        due("another's none", x.redo(1), NONE);
        for (int e : new int[] {2, -1, MAX, MIN}) {
            due("redo(" + e + ")", x.redo(e), NONE);
        }
        due("refused", x.status(2), 6);
        due("all stays", x.editor(0, 6) + " " + x.has(4) + " " + x.has(8), "1 3 3");
        x = told(FAST);
        x.cut(0, 0, 1);
        x.undo(0);
        x.ticks(2);
        x.cut(1, 0, 1);
        x.ticks(1);
        due("nothing that would change something", x.redo(0), NONE);
        due("all stays", x.editor(0, 6) + " " + x.editor(0, 7) + " " + x.has(4), "0 1 3");
        x = told(S + times("edit 1 +" + times("q", 20) + ";", 9) + "edit 1 +" + times("q", 19) + ";");
        x.put(0, 0, 1);
        x.undo(0);
        due("a letter too many", x.redo(0), NONE);
        due("all stays", x.editor(0, 6) + " " + x.editor(0, 7) + " " + x.has(5), "0 1 200");
        due("without a session", new FarEditors().redo(0), NONE);
    }

    private static void line() {
        says(33, "An EDITOR is ON or off: true;");
        FarEditors x = told(S);
        due("off", x.line(1, false), true);
        due("on", x.line(1, true), true);
        due("off", x.line(0, false), true);
        due("who is ON", x.editor(0, 8) + " " + x.editor(1, 8) + " " + x.has(8), "0 1 3");

        says(33, "false, refused (3), when it is so, or there is none such.");
        due("off already", x.line(0, false), false);
        due("on already", x.line(1, true), false);
        for (int e : new int[] {2, -1, MAX, MIN}) {
            due("line(" + e + ", false)", x.line(e, false), false);
            due("line(" + e + ", true)", x.line(e, true), false);
        }
        due("refused", x.status(3), 10);
        due("all stays", x.editor(0, 8) + " " + x.editor(1, 8) + " " + x.has(8), "0 1 3");
        due("without a session", new FarEditors().line(0, false), false);
    }

    private static void delay() {
        says(34, "Another delay (0 .. 9) of an EDITOR, for what is SENT from now on: true;");
        FarEditors x = told(S);
        x.put(0, 0, 1);
        due("0", x.delay(0, 0), true);
        due("9", x.delay(1, 9), true);
        due("what was SENT", x.editor(0, 11), 1);
        x.put(1, 0, 1);
        due("what is SENT", x.editor(1, 11), 9);
        x.ticks(1);
        due("to the one by 0, to the other by 9", x.editor(0, 1) + " " + x.editor(1, 1), "1 0");

        says(34, "false, refused (3), when it is that, it can't be, or there is none such.");
        int[][] bad = {{0, 0}, {1, 9}, {0, 10}, {0, -1}, {0, MAX}, {0, MIN}, {2, 3}, {-1, 3}, {MAX, 3}, {MIN, 3}};
        for (int[] n : bad) {
            due("delay(" + n[0] + ", " + n[1] + ")", x.delay(n[0], n[1]), false);
        }
        due("refused", x.status(3), bad.length);
        due("all stays", x.editor(0, 9) + " " + x.editor(1, 9) + " " + x.has(8), "0 9 5");
        due("without a session", new FarEditors().delay(0, 3), false);
        due("1 is that at first", told(S).delay(0, 1), false);
    }

    private static void ticks() {
        says(35, "n TICKS (1 .. 99): how many OPS the server took;");
        FarEditors x = told("text abc editors 4;edit 0 +x;edit 0 +y;edit 1 +x;edit 2 +x;edit 3 +x;");
        due("1", x.ticks(1), 4);
        due("99", x.ticks(99), 1);
        due("99 more", x.ticks(99), 0);
        due("TICK", x.has(3) + " " + x.has(8), "199 3");

        says(35, "NONE, refused (4), when n can't be (beyond TICK 999), or without a session.");
        for (int n : new int[] {0, -1, 100, MAX, MIN}) {
            due("ticks(" + n + ")", x.ticks(n), NONE);
        }
        due("refused", x.status(4), 5);
        due("all stays", x.has(3) + " " + x.has(8), "199 3");
        x = told(S + times("tick 99;", 10));
        due("10 beyond 990", x.ticks(10), NONE);
        due("99 beyond 990", x.ticks(99), NONE);
        due("TICK", x.has(3), 990);
        due("9 beyond 990", x.ticks(9), 0);
        due("1 beyond 999", x.ticks(1), NONE);
        due("TICK", x.has(3) + " " + x.status(4), "999 3");
        FarEditors none = new FarEditors();
        due("without a session", none.ticks(1) + " " + none.status(4), "-1 1");
    }

    private static void chance() {
        says(36, "n CHANGES by the seed (1 .. 40), one ACT: how many EDITS these were;");
        FarEditors x = told(S);
        due("1", x.chance(1), 1);
        due("one ACT", x.has(8), 1);
        int edits = x.chance(40);
        due("40", x.has(4), 1 + edits);
        due("one ACT more", x.has(8), 2);
        x.back();
        due("all 40 are taken back", x.has(4) + " " + x.has(3) + " " + x.has(8), "1 0 1");
        x = told(S);
        x.seed(2147483647);
        due("a TICK is no EDIT", x.chance(1) + " " + x.has(3) + " " + x.has(8), "0 1 1");

        says(36, "NONE, refused (4), when n can't be, or without a session.");
        for (int n : new int[] {0, -1, 41, MAX, MIN}) {
            due("chance(" + n + ")", x.chance(n), NONE);
        }
        due("refused", x.status(4), 5);
        due("all stays", x.has(4) + " " + x.has(3) + " " + x.has(8), "0 1 1");
        FarEditors none = new FarEditors();
        none.seed(7);
        due("without a session", none.chance(1) + " " + none.status(4), "-1 1");
        session(none, S);
        FarEditors y = told(S);
        y.seed(7);
        due("nothing was drawn", none.chance(9) + text(none, 0) + text(none, 1), y.chance(9) + text(y, 0) + text(y, 1));
    }

    /** All that can be asked of a session, in one text. */
    private static String all(FarEditors x) {
        StringBuilder b = new StringBuilder(text(x, NONE));
        for (int what = 0; what <= 10; what++) {
            b.append(what == 8 ? "" : " " + x.has(what));
        }
        for (int e = 0; e < x.has(0); e++) {
            b.append('\n').append(text(x, e)).append(' ').append(x.share(e, 0)).append(' ').append(x.share(e, 1));
            for (int what = 0; what <= 11; what++) {
                b.append(' ').append(x.editor(e, what));
            }
            for (int which = 0; which <= 3; which++) {
                b.append(", ").append(op(x, e, which));
            }
            for (int k = 0; k < x.editor(e, 5); k++) {
                b.append(", ").append(x.mark(e, k, 0)).append(' ').append(x.mark(e, k, 1)).append(' ').append(x.mark(e, k, 2));
            }
        }
        for (int n = 1; n <= x.has(1); n++) {
            b.append('\n').append(x.row(n, NONE, 0)).append(' ').append(row(x, n));
        }
        return b.toString();
    }

    /** Acts that change all there is, each taken back; then all goes on as if none of them had been. */
    private static void backOfAll() {
        String busy = "text abc editors 3;delay 1 4;edit 0 +x;tick 1;edit 1 -2;edit 0 1 +y;edit 0 -1;edit 1 +p;edit 1 1 +q;cursor 0 1;"
            + "mark 0 0 1 0;mark 0 1 1 3;mark 1 0 1 2;tick 1;";
        FarEditors x = told(busy);
        x.undo(0);
        x.undo(1);
        FarEditors y = told(busy);
        y.undo(0);
        y.undo(1);
        String before = all(x);
        due("alike at first", all(y), before);
        x.chance(40);
        x.clears(0, 0);
        x.undo(0);
        x.undo(0);
        x.undo(1);
        x.put(0, 0, 26);
        x.put(1, 0, 26);
        x.marks(0, 0, 0, 1);
        x.marks(1, 0, 0, 1);
        x.cursor(1, 0);
        x.line(2, false);
        x.delay(2, 9);
        x.delay(0, 0);
        x.ticks(20);
        x.undo(1);
        int acts = x.has(8) - y.has(8);
        for (int i = 0; i < acts; i++) {
            x.back();
        }
        due("behind " + acts + " ACTS taken back", all(x), before);
        for (int i = 0; i < 9; i++) {
            due("going on: undo", x.undo(i % 2), y.undo(i % 2));
            due("going on: redo", x.redo(i / 3 % 2), y.redo(i / 3 % 2));
            due("going on: a TICK", x.ticks(1), y.ticks(1));
            due("going on " + i, all(x), all(y));
        }
        x.ticks(50);
        textOfAll(x);
    }

    private static void back() {
        says(37, "The latest ACT is taken back (the seed stays): true;");
        FarEditors x = told(S);
        x.put(0, 0, 24);
        see(x, 0, 1);
        x.put(0, -1, 0);
        due("the only one", x.back(), true);
        due("all is as before", text(x, 0) + x.has(4) + x.has(5) + x.has(6) + x.has(8) + x.editor(0, 3) + x.editor(0, 6), "abc000000");
        due("what is SEEN and what was refused stay", x.has(7) + " " + x.status(2), "1 1");
        x.put(0, 0, 24);
        x.ticks(9);
        x.cut(1, 0, 1);
        x.ticks(9);
        due("two OPS", x.has(1) + text(x, NONE), "2abc");
        x.back();
        due("one", x.has(1) + text(x, NONE) + x.has(3) + text(x, 1), "1xabc9abc");
        x.put(0, 0, 25);
        x.ticks(9);
        due("another in its place", row(x, 2) + " " + textOfAll(x), "+y 4 yabc");
        due("whose", x.row(1, NONE, 0) + " " + x.row(2, NONE, 0) + " " + x.row(3, NONE, 0), "0 0 1");
        backOfAll();
        x = told(S);
        x.seed(0);
        x.chance(1);
        x.back();
        x.chance(1);
        FarEditors y = told(S);
        y.seed(1449466924);
        y.chance(1);
        due("the seed is as four draws left it", text(x, 0) + text(x, 1) + x.has(3), text(y, 0) + text(y, 1) + y.has(3));

        says(37, "false, refused (5), when none can be.");
        x = told(S + "edit 0 +x;");
        due("of a session alone", x.back(), false);
        x.cursor(0, 2);
        due("one", x.back(), true);
        due("no second", x.back(), false);
        for (int i = 0; i < 21; i++) {
            x.put(1, 0, 1);
        }
        for (int i = 0; i < 20; i++) {
            due("back " + i, x.back(), true);
        }
        due("no 21st", x.back(), false);
        due("refused", x.status(5), 3);
        due("the first stays", text(x, 1), "aabc");
        due("without a session", new FarEditors().back(), false);
    }

    private static void seed() {
        says(38, "The seed: true; false, refused (6), when it is below 0. (It is 1 at first.)");
        FarEditors x = told(S);
        due("-1", x.seed(-1), false);
        due("the least", x.seed(MIN), false);
        due("refused", x.status(6), 2);
        FarEditors y = told(S);
        due("1", y.seed(1), true);
        due("1 at first, and still", x.chance(40) + text(x, 0) + text(x, 1), y.chance(40) + text(y, 0) + text(y, 1));
        due("0", x.seed(0), true);
        due("the greatest", x.seed(MAX), true);
        due("no ACT", x.has(8), 1);
        due("without a session", new FarEditors().seed(0), true);
        due("without a session, below 0", new FarEditors().seed(-1), false);
    }

    private static void status() {
        says(39, "How many were refused: 0 feed(), end(); 1 session(), see(); 2 edit(), put(), cut(), type(), undo(), redo();"
            + " 3 cursor(), marks(), clears(), line(), delay(); 4 ticks(), chance(); 5 back(); 6 seed().");
        FarEditors x = new FarEditors();
        String[] want = {"0000000", "1000000", "1100000", "1200000", "1210000", "1220000", "1230000", "1240000", "1250000", "1260000",
            "1261000", "1262000", "1263000", "1264000", "1265000", "1265100", "1265200", "1265210", "1265211"};
        for (int i = 0; i < want.length; i++) {
            due("behind " + i + " refused calls", refused(x), want[i]);
            if (i + 1 < want.length) {
                refuse(x, i);
            }
        }
        for (int i = 0; i < 80; i++) {
            x.feed(0, 0, 0, 0, 0);
        }
        due("80 times fed", refused(x), "1265211");
        x.feed(0, 0, 0, 0, 0);
        due("81 times", refused(x), "2265211");
        x.has(11);
        x.editor(0, 0);
        x.letter(0, 0);
        x.quiet();
        x.orders(0);
        x.fits(0);
        x.tells(0);
        x.status(7);
        due("what is only asked is not refused", refused(x), "2265211");

        says(39, "NONE for others.");
        for (int what : new int[] {7, -1, 99, MAX, MIN}) {
            due("status(" + what + ")", x.status(what), NONE);
        }
    }

    private static String refused(FarEditors x) {
        StringBuilder b = new StringBuilder();
        for (int what = 0; what <= 6; what++) {
            b.append(x.status(what));
        }
        return b.toString();
    }

    private static void refuse(FarEditors x, int call) {
        switch (call) {
            case 0: x.end(1); break;
            case 1: x.session(); break;
            case 2: x.see(); break;
            case 3: x.edit(0); break;
            case 4: x.put(0, 0, 1); break;
            case 5: x.cut(0, 0, 1); break;
            case 6: x.type(0, 1); break;
            case 7: x.undo(0); break;
            case 8: x.redo(0); break;
            case 9: x.cursor(0, 1); break;
            case 10: x.marks(0, 0, 0, 0); break;
            case 11: x.clears(0, 0); break;
            case 12: x.line(0, false); break;
            case 13: x.delay(0, 3); break;
            case 14: x.ticks(1); break;
            case 15: x.chance(1); break;
            case 16: x.back(); break;
            default: x.seed(-1);
        }
    }

    static void run() {
        newObject();
        feed();
        end();
        session();
        fault();
        has();
        editor();
        letter();
        step();
        row();
        mark();
        was();
        by();
        share();
        together();
        without();
        quiet();
        later();
        orders();
        ends();
        see();
        fits();
        tells();
        edit();
        put();
        cut();
        type();
        cursor();
        marks();
        clears();
        undo();
        redo();
        line();
        delay();
        ticks();
        chance();
        back();
        seed();
        status();
    }
}
