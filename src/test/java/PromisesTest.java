/** The promises of the document one by one, with answers reckoned by hand from its words. */
public final class PromisesTest extends Asking {
    // ---- the tape and the session

    private static void newObject() {
        FarEditors x = new FarEditors();
        for (int what = 0; what <= 10; what++) {
            due(1, "has(" + what + ") of a new object", x.has(what), what == 9 ? 1 : 0);
        }
        due(1, "fault(0) of a new object", x.fault(0), 0);
        due(1, "fault(1) of a new object", x.fault(1), NONE);
        due(1, "editor(0, 0) of a new object", x.editor(0, 0), NONE);
        due(1, "letter(NONE, 0) of a new object", x.letter(NONE, 0), NONE);
        for (int what = 0; what <= 6; what++) {
            due(1, "status(" + what + ") of a new object", x.status(what), 0);
        }
    }

    private static void feed() {
        FarEditors x = new FarEditors();
        for (int i = 1; i <= 80; i++) {
            due(2, "feed number " + i, x.feed(0x20202020, 0x20202020, 0x20202020, 0x20202020, 0x20202020), 20 * i);
        }
        due(2, "feed of bytes 1601 and on", x.feed(0, 0, 0, 0, 0), NONE);
        due(2, "status(0)", x.status(0), 1);
        due(2, "end(1581)", x.end(1581), true);
        due(2, "feed of byte 1601", x.feed(0, 0, 0, 0, 0), NONE);
        due(2, "end(1580)", x.end(1580), true);
        due(2, "feed of byte 1600", x.feed(0, 0, 0, 0, 0), 1600);
        x = new FarEditors();
        // "text", " abc", " edi", "tors", " 2; " as the numbers' bytes stand, the highest first
        due(2, "feed", x.feed(0x74657874, 0x20616263, 0x20656469, 0x746f7273, 0x20323b20), 20);
        due(2, "session as fed", x.session(), 1);
        due(2, "its text", text(x, NONE), "abc");
        x.feed(0xffffffff, 0, 0, 0, 0);
        x.session();
        due(2, "a byte above 127", fault(x), "1 at 0");
    }

    private static void end() {
        FarEditors x = new FarEditors();
        due(3, "end(0) of an empty tape", x.end(0), true);
        due(3, "end(1) of an empty tape", x.end(1), false);
        x.feed(0, 0, 0, 0, 0);
        due(3, "end(-1)", x.end(-1), false);
        due(3, "end(21)", x.end(21), false);
        due(3, "end(20)", x.end(20), true);
        due(3, "end(7)", x.end(7), true);
        due(3, "end(8)", x.end(8), false);
        due(3, "feed behind end(7)", x.feed(0, 0, 0, 0, 0), 27);
        due(3, "status(0)", x.status(0), 4);
    }

    private static void session() {
        FarEditors x = told("text abcd editors 3; delay 0 4; delay 0 2; ties 1; ties 2; tick 3; delay 2 0;");
        due(4, "has(0)", x.has(0), 3);
        due(4, "the last delay counts, from the first on", x.editor(0, 9), 2);
        due(4, "delay without", x.editor(1, 9), 1);
        due(4, "delay 0", x.editor(2, 9), 0);
        due(4, "the last ties count", x.has(10), 2);
        due(4, "tick", x.has(3), 3);
        due(4, "text of an editor", text(x, 2), "abcd");
        due(4, "statements", session(x, "text abc editors 2;off 0;on 0;off 1;"), 4);
        due(4, "on again", x.editor(0, 8), 1);
        due(4, "off", x.editor(1, 8), 0);
        due(4, "what can't be is not", session(x, "text abc editors 2;cursor 0 4;mark 0 2 1 0;mark 0 0 4 0;edit 0 4+x;edit 0 3;"), 6);
        due(4, "no cursor beyond the text", x.editor(0, 2), 0);
        due(4, "no mark that can't be", x.editor(0, 5), 0);
        due(4, "no edit that can't be", x.has(4), 0);
        session(x, "text abc editors 2;" + times("tick 99;", 10) + "tick 10;tick 9;tick 1;");
        due(4, "ticks up to 999, each statement whole or not", x.has(3), 999);
        session(x, "text abc editors 2;" + times("mark 0 1 2 3;", 5));
        due(4, "four marks at most", x.editor(0, 5), 4);
        session(x, "text abc editors 2;edit 0 +x;tick 1;edit 1 1 -1 +y;cursor 1 2;delay 0 0;delay 1 0;");
        due(4, "done in order", text(x, 1), "xybc");
        due(4, "delays are told ahead of all", x.has(1), 1);
        x.put(0, 0, 1);
        x.seed(7);
        see(x, 0, 1);
        due(4, "acts there are", x.has(8), 1);
        due(4, "seen there is", x.has(7), 1);
        due(4, "session with a fault", session(x, "text abc editors 2;x"), NONE);
        due(4, "all stays", x.has(8) + x.has(7) + x.has(4), 5);
        due(4, "the tape goes", x.end(1), false);
        due(4, "status(1)", x.status(1), 1);
        session(x, "text abc editors 2;");
        due(4, "nothing is seen", x.has(7), 0);
        due(4, "nothing can be taken back", x.back(), false);
        due(4, "no edits", x.has(4), 0);
        due(4, "no ops", x.has(1), 0);
        due(4, "the tape goes", x.end(1), false);
        x.chance(1);
        FarEditors y = told("text abc editors 2;");
        y.seed(7);
        y.chance(1);
        due(4, "the seed stays", text(x, 0) + text(x, 1), text(y, 0) + text(y, 1));
        sessionBehindAnother();
    }

    private static void sessionBehindAnother() {
        String rich = "text abc editors 2;ties 2;delay 0 5;edit 0 +x;edit 0 -1;edit 1 -2;cursor 0 1;mark 0 0 1 1;tick 9;"
            + "edit 0 +xy;edit 0 +z;off 0;";
        FarEditors x = told(rich);
        x.undo(0);
        due(4, "ends of the one", x.ends(0, NONE), 2);
        session(x, "text pq editors 2;");
        FarEditors y = told("text pq editors 2;");
        for (int what = 0; what <= 10; what++) {
            due(4, "has(" + what + ") as of a new object", x.has(what), y.has(what));
        }
        for (int what = 0; what <= 11; what++) {
            due(4, "editor(0, " + what + ") as of a new object", x.editor(0, what), y.editor(0, what));
        }
        due(4, "share(1, 1) as of a new object", x.share(1, 1), 0);
        due(4, "ends of the other", letters(k -> x.ends(0, k)), "pq");
        due(4, "what there was", letters(k -> x.was(0, k)), "pq");
    }

    private static void faults() {
        FarEditors x = new FarEditors();
        String s = "text abc editors 2;";
        String[][] all = {
            {"", "1 at 0"}, {" \n ", "1 at 3"}, {";", "1 at 0"}, {"tex", "1 at 0"}, {"texts a", "1 at 0"}, {"Text", "1 at 0"},
            {"text", "1 at 4"}, {"text ", "1 at 5"}, {"text;", "1 at 4"}, {"text a1", "1 at 6"}, {"text a B", "1 at 7"},
            {"text a edit", "1 at 7"}, {"text a editors", "1 at 14"}, {"text a editors2", "1 at 14"},
            {"text a editors x", "1 at 15"}, {"text a editors 02 ;", "0 at -1"}, {"text a editors 4;", "0 at -1"},
            {"text a editors 5;", "2 at 15"}, {"text a editors 1;", "2 at 15"}, {"text a editors 99", "2 at 15"},
            {"text a editors 999", "1 at 17"}, {"text a editors 2 3", "1 at 17"}, {"text\na\neditors\n2\n;\n", "0 at -1"},
            {"text a\teditors 2;", "1 at 6"},
            {"text " + times("z", 40) + " editors 2;", "0 at -1"}, {"text " + times("z", 41) + " editors 2;", "1 at 45"},
            {"tick 1;", "1 at 0"}, {s + "text b editors 2;", "1 at 19"}, {s + "editors 2;", "1 at 19"}, {s + ";", "1 at 19"},
            {s + "tick", "1 at 23"}, {s + "tick 1", "1 at 25"}, {s + "tick 1 ", "1 at 26"}, {s + "tick1;", "1 at 23"},
            {s + "tick 0;", "2 at 24"}, {s + "tick 00;", "2 at 24"}, {s + "tick 99;", "0 at -1"}, {s + "tick 1x;", "1 at 25"},
            {s + "tick -1;", "1 at 24"}, {s + "ties 2;", "0 at -1"}, {s + "ties 3;", "2 at 24"}, {s + "ties a;", "1 at 24"},
            {s + "delay 1 9;", "0 at -1"}, {s + "delay 1 10;", "2 at 27"}, {s + "delay 2 10;", "2 at 25"}, {s + "delay 1;", "1 at 26"},
            {s + "cursor 1 99;", "0 at -1"}, {s + "cursor 1 100;", "1 at 30"}, {s + "cursor 2 1;", "2 at 26"},
            {s + "mark 0 9 1 3;", "0 at -1"}, {s + "mark 0 9 1 4;", "2 at 30"}, {s + "mark 0 0 0;", "1 at 29"},
            {s + "off 1;on 1;", "0 at -1"}, {s + "off 2;", "2 at 23"}, {s + "on 2;", "2 at 22"}, {s + "o 1;", "1 at 19"},
            {s + "edit 1 99;", "0 at -1"}, {s + "edit 2 1;", "2 at 24"}, {s + "edit 1 0;", "2 at 26"}, {s + "edit 1 -0;", "2 at 27"},
            {s + "edit 1 -;", "1 at 27"}, {s + "edit 1 -a;", "1 at 27"}, {s + "edit 1 +1;", "1 at 27"}, {s + "edit 1 x;", "1 at 26"},
            {s + "edit 1 +a+b-1 2-3;", "0 at -1"}, {s + "edit 1 + a - 1;", "0 at -1"}, {s + "edit 1 +a b;", "1 at 29"},
            {s + "edit 1 +ab3;", "1 at 29"}, {s + "edit 1 100;", "1 at 28"}, {s + "edit1 1;", "1 at 23"}, {s + "edit 1+a;", "0 at -1"},
            {s + "edit 1 +" + times("q", 20) + ";", "0 at -1"}, {s + "edit 1 +" + times("q", 21) + ";", "1 at 47"},
            {s + "edit 1 " + times("1 ", 40) + ";", "0 at -1"}, {s + "edit 1 " + times("1 ", 40) + "+5", "5 at 106"},
            {s + "edit 1 " + times("1 ", 40) + "-1;", "5 at 106"}, {s + "edit 1 " + times("1 ", 40) + "x", "5 at 106"},
            {s + "edit 1 " + times("1 ", 40) + " \n?", "5 at 108"}, {s + "edit 1 " + times("1 ", 40) + "text", "5 at 106"},
            {s + "edit 1 " + times("1 ", 40), "1 at 106"}, {s + "edit 1 " + times("1 ", 40) + "\n", "1 at 107"},
            {s + "edit 1 " + times("1 ", 39) + "x", "1 at 104"}, {s + "edit 1 " + times("1 ", 39) + "+x5;", "5 at 106"},
            {s + "edit 1 " + times("1 ", 38) + "+x5;", "1 at 104"}, {s + "edit 1 " + times("1 ", 39) + "5x;", "5 at 105"},
            {s + "edit 1 " + times("1 ", 39) + "555;", "1 at 106"}, {s + "edit 1 " + times("1 ", 39) + "0x;", "2 at 104"},
            {s + "edit 1 " + times("1 ", 39) + "+?;", "1 at 105"},
            {s + "edit 1 " + times("1 ", 39) + "+" + times("q", 20) + ";", "0 at -1"},
            {s + "edit 1 " + times("1 ", 39) + "+" + times("q", 21) + ";", "1 at 125"},
            {s + times("on 0;", 59), "0 at -1"}, {s + times("on 0;", 59) + " \n", "0 at -1"},
            {s + times("on 0;", 59) + " on 0;", "5 at 315"}, {s + times("on 0;", 59) + ";", "5 at 314"},
            {s + times("on 0;", 59) + "?", "5 at 314"},
        };
        for (String[] one : all) {
            int answer = session(x, one[0]);
            due(5, "the fault of " + one[0], fault(x), one[1]);
            due(4, "whether it is refused: " + one[0], answer == NONE, !one[1].equals("0 at -1"));
        }
        due(5, "fault(2)", x.fault(2), NONE);
        due(5, "fault(-1)", x.fault(-1), NONE);
        session(x, "text abc editors 2;tick 0;");
        edit(x, 5, "+");
        due(5, "a tape that was not read tells no fault", fault(x), "2 at 24");
        session(x, s);
        edit(x, 0, "+");
        due(5, "the fault of an edit", fault(x), "1 at 1");
        edit(x, 0, "+a");
        due(5, "no fault of an edit", fault(x), "0 at -1");
    }

    private static void has() {
        FarEditors x = told("text abc editors 3;ties 1;edit 0 +xy;edit 0 -1;edit 2 -3;");
        due(6, "editors", x.has(0), 3);
        due(6, "ops", x.has(1), 0);
        due(6, "letters", x.has(2), 3);
        due(6, "edits", x.has(4), 3);
        due(6, "letters put", x.has(5), 2);
        due(6, "on their way", x.has(6), 2);
        due(6, "quiet", x.has(9), 0);
        due(6, "ties", x.has(10), 1);
        x.ticks(1);
        due(6, "ops taken", x.has(1), 2);
        due(6, "letters", x.has(2), 2);
        due(6, "on their way", x.has(6), 6);
        due(6, "tick", x.has(3), 1);
        due(6, "acts", x.has(8), 1);
        x.ticks(9);
        due(6, "quiet", x.has(9), 1);
        see(x, 0, 1, 9, 0);
        due(6, "seen", x.has(7), 2);
        due(6, "has(11)", x.has(11), NONE);
        due(6, "has(-1)", x.has(-1), NONE);
        due(6, "has(2147483647)", x.has(2147483647), NONE);
    }

    private static void editor() {
        FarEditors x = told("text abc editors 2;delay 0 3;edit 0 +x;edit 0 1 +y;cursor 0 2;mark 0 0 1 0;off 1;");
        int[] want = {5, 0, 2, 1, 1, 1, 2, 0, 1, 3, 0, 3};
        for (int what = 0; what < want.length; what++) {
            due(7, "editor(0, " + what + ")", x.editor(0, what), want[what]);
        }
        int[] other = {3, 0, 0, 0, 0, 0, 0, 0, 0, 1, 0, NONE};
        for (int what = 0; what < other.length; what++) {
            due(7, "editor(1, " + what + ")", x.editor(1, what), other[what]);
        }
        x.undo(0);
        due(7, "dones", x.editor(0, 7), 1);
        x.ticks(2);
        due(7, "ticks left", x.editor(0, 11), 1);
        x.ticks(1);
        due(7, "nothing on its way from it", x.editor(0, 11), NONE);
        due(7, "on their way to it", x.editor(0, 10), 1);
        x.ticks(3);
        due(7, "revision", x.editor(0, 1), 1);
        due(7, "what is left of what it sends next", x.editor(0, 11), 3);
        due(7, "an editor that is off hears nothing", x.editor(1, 1), 0);
        due(7, "on their way to an editor that is off", x.editor(1, 10), 1);
        due(7, "editor(2, 0)", x.editor(2, 0), NONE);
        due(7, "editor(-1, 0)", x.editor(-1, 0), NONE);
        due(7, "editor(0, 12)", x.editor(0, 12), NONE);
        due(7, "editor(0, -1)", x.editor(0, -1), NONE);
    }

    private static void letter() {
        FarEditors x = told("text az editors 2;edit 1 1 +m;");
        due(8, "the server's", text(x, NONE), "az");
        due(8, "an editor's", text(x, 0), "az");
        due(8, "another's", text(x, 1), "amz");
        due(8, "letter(1, 1)", x.letter(1, 1), 13);
        due(8, "letter(1, 3)", x.letter(1, 3), NONE);
        due(8, "letter(1, -1)", x.letter(1, -1), NONE);
        due(8, "letter(NONE, -1)", x.letter(NONE, -1), NONE);
        due(8, "letter(2, 0)", x.letter(2, 0), NONE);
        due(8, "letter(-2, 0)", x.letter(-2, 0), NONE);
    }

    // ---- operations

    private static void step() {
        FarEditors x = told("text abcdef editors 2;");
        due(9, "nothing pending", x.step(0, 0, 0, 0), NONE);
        edit(x, 0, "1 1 -1 +x -1 +y 1");
        due(9, "pending, as it is asked", op(x, 0, 0), "2 +xy -2 2");
        due(9, "its inverse", op(x, 0, 2), "2 +cd -2 2");
        due(9, "no dones", op(x, 0, 3), "");
        due(9, "kind of a put", x.step(0, 0, 1, 0), 1);
        due(9, "letters of a put", x.step(0, 0, 1, 1), 2);
        due(9, "its second letter", x.step(0, 0, 1, 3), 25);
        due(9, "no third letter", x.step(0, 0, 1, 4), NONE);
        due(9, "no letters of a keep", x.step(0, 0, 0, 2), NONE);
        due(9, "no letters of a cut", x.step(0, 0, 2, 2), NONE);
        due(9, "what -1", x.step(0, 0, 0, -1), NONE);
        due(9, "what 2147483647", x.step(0, 0, 1, 2147483647), NONE);
        due(9, "k 4", x.step(0, 0, 4, 0), NONE);
        due(9, "k -1", x.step(0, 0, -1, 0), NONE);
        due(9, "which 4", x.step(0, 4, 0, 0), NONE);
        due(9, "which -1", x.step(0, -1, 0, 0), NONE);
        due(9, "editor 2", x.step(2, 0, 0, 0), NONE);
        // abxyef: what is put and cut again leaves nothing
        edit(x, 0, "1 +pq 1 -1");
        due(9, "the buffer", op(x, 0, 1), "1 +pq 1 -1 3");
        edit(x, 0, "2 -1 +r -1 +s");
        due(9, "composed: q and b go, r and s stay behind p", op(x, 0, 1), "1 +prs -2 3");
        due(9, "the text", text(x, 0), "aprsyef");
        x.undo(0);
        due(9, "the latest of dones", op(x, 0, 3), "2 +rs -2 3");
        edit(x, 0, "-1 1 -1 1 -1 -2");
        due(9, "dones go", op(x, 0, 3), "");
        FarEditors w = told("text abcd editors 2;");
        w.cut(0, 1, 2);
        w.type(1, 5);
        due(9, "a cut keeps what is behind it", op(w, 0, 0), "1 -2 1");
        due(9, "so does a put", op(w, 1, 0), "+e 4");
        FarEditors y = told("text abc editors 2;edit 0 +x;edit 0 +y;edit 0 -1;");
        due(9, "a buffer that does nothing is one", y.editor(0, 4), 1);
        due(9, "its steps", op(y, 0, 1), "4");
        FarEditors z = told("text abc editors 2;edit 0 -3;");
        due(9, "all cut", op(z, 0, 0), "-3");
        z.put(0, 0, 1);
        due(9, "of an empty text", op(z, 0, 1), "+a");
        z.cut(0, 0, 1);
        due(9, "an op of an empty text to an empty text has no step", z.step(0, 1, 0, 0), NONE);
        due(9, "but is one", z.editor(0, 4), 1);
    }

    private static void row() {
        FarEditors x = told("text abcd editors 3;delay 0 0;delay 1 0;delay 2 0;edit 0 1 -2;edit 1 2 +x -2;edit 2 2 +y;tick 1;");
        due(10, "ops", x.has(1), 3);
        due(10, "row 1", row(x, 1), "1 -2 1");
        due(10, "row 2, turned over row 1", row(x, 2), "1 +x -1");
        due(10, "row 3: by ties 0 the editor of less number is ahead", row(x, 3), "2 +y");
        due(10, "the text", text(x, NONE), "axy");
        due(10, "all are there", text(x, 0) + text(x, 1) + text(x, 2), "axyaxyaxy");
        due(10, "whose", x.row(3, NONE, 0), 2);
        due(10, "how many steps", x.row(2, NONE, 1), 3);
        due(10, "what 2 of k NONE", x.row(2, NONE, 2), NONE);
        due(10, "what -1 of k NONE", x.row(2, NONE, -1), NONE);
        due(10, "k -2", x.row(2, -2, 0), NONE);
        due(10, "k 3", x.row(2, 3, 0), NONE);
        due(10, "row 0", x.row(0, NONE, 1), NONE);
        due(10, "row 4", x.row(4, NONE, 1), NONE);
        due(10, "a letter", x.row(2, 1, 2), 24);
        FarEditors y = told("text abcd editors 2;edit 0 -2;edit 1 -1;tick 9;");
        due(10, "what both cut is cut by neither any more", row(y, 2), "2");
        String three = "text ab editors 3;edit 0 1 +x;edit 1 1 +y;edit 2 1 +z;tick 9;";
        due(10, "ties 0", text(told(three), 0), "axyzb");
        due(10, "ties 1", text(told(three + "ties 1;"), 1), "azyxb");
        due(10, "ties 2: what the server took is ahead", text(told(three + "ties 2;"), 2), "axyzb");
        due(10, "ties 2 the other way", text(told(three + "ties 2;delay 0 3;delay 1 2;"), 2), "azyxb");
        FarEditors z = told("text ab editors 2;ties 1;edit 0 -1 +x;edit 1 1 +y;tick 9;");
        due(10, "a put stands at its place by the steps, ahead of the cut", text(z, NONE), "xyb");
    }

    private static void mark() {
        FarEditors x = told("text abcdef editors 2;mark 0 2 4 0;mark 0 2 4 1;mark 0 2 4 2;mark 0 2 4 3;mark 1 3 3 0;");
        x.put(0, 2, 24);
        due(11, "grows 0, put at from", x.mark(0, 0, 0), 3);
        due(11, "grows 1, put at from", x.mark(0, 1, 0), 2);
        due(11, "grows 2, put at from", x.mark(0, 2, 0), 3);
        due(11, "grows 3, put at from", x.mark(0, 3, 0), 2);
        due(11, "to", x.mark(0, 0, 1), 5);
        x.put(0, 5, 24);
        due(11, "grows 0, put at to", x.mark(0, 0, 1), 5);
        due(11, "grows 1, put at to", x.mark(0, 1, 1), 5);
        due(11, "grows 2, put at to", x.mark(0, 2, 1), 6);
        due(11, "grows 3, put at to", x.mark(0, 3, 1), 6);
        due(11, "grows", x.mark(0, 3, 2), 3);
        x.ticks(2);
        due(11, "carried by another's op: xabx.. puts ahead", x.mark(1, 0, 0), 4);
        due(11, "to is carried, too", x.mark(1, 0, 1), 4);
        x.put(0, 4, 24);
        x.ticks(4);
        due(11, "put at both by another: from is pushed, to is no less", x.mark(1, 0, 0) + 10 * x.mark(1, 0, 1), 55);
        due(11, "what 3", x.mark(0, 0, 3), NONE);
        due(11, "what -1", x.mark(0, 0, -1), NONE);
        due(11, "mark 4", x.mark(0, 4, 0), NONE);
        due(11, "mark -1", x.mark(0, -1, 0), NONE);
        due(11, "editor 2", x.mark(2, 0, 0), NONE);
        FarEditors y = told("text abcdef editors 2;mark 0 1 5 0;mark 0 3 3 0;");
        edit(y, 0, "2 -2");
        due(11, "cut inside", y.mark(0, 0, 0) + 10 * y.mark(0, 0, 1), 31);
        due(11, "cut around", y.mark(0, 1, 0) + 10 * y.mark(0, 1, 1), 22);
        edit(y, 0, "-4");
        due(11, "all cut", y.mark(0, 0, 0) + 10 * y.mark(0, 0, 1), 0);
    }

    // ---- what there was

    private static FarEditors three() {
        // abc; editor 0 puts xy ahead; editor 1 cuts xya; editor 0 puts z behind
        return told("text abc editors 2;delay 0 0;delay 1 0;edit 0 +xy;tick 1;edit 1 -3;tick 1;edit 0 2 +z;tick 1;");
    }

    private static void was() {
        FarEditors x = three();
        String[] want = {"abc", "xyabc", "bc", "bcz"};
        for (int n = 0; n < want.length; n++) {
            int ops = n;
            due(12, "was " + n, letters(k -> x.was(ops, k)), want[n]);
            due(12, "letters of was " + n, x.was(n, NONE), want[n].length());
        }
        due(12, "was(4, NONE)", x.was(4, NONE), NONE);
        due(12, "was(-1, NONE)", x.was(-1, NONE), NONE);
        due(12, "was(0, -2)", x.was(0, -2), NONE);
        due(12, "was(0, 3)", x.was(0, 3), NONE);
        due(12, "without a session", new FarEditors().was(0, NONE), NONE);
    }

    private static void by() {
        FarEditors x = three();
        due(13, "told", x.by(0, 0), 0);
        due(13, "told: whose", x.by(0, 1), NONE);
        due(13, "put", x.by(2, 0), 3);
        due(13, "put: whose", x.by(2, 1), 0);
        due(13, "by(3, 0)", x.by(3, 0), NONE);
        due(13, "by(-1, 0)", x.by(-1, 0), NONE);
        due(13, "by(0, 2)", x.by(0, 2), NONE);
        due(13, "by(0, -1)", x.by(0, -1), NONE);
        x.undo(1);
        x.ticks(1);
        due(13, "what undo puts again is by its op", letters(k -> x.letter(NONE, k)), "xyabcz");
        due(13, "by", x.by(0, 0) + x.by(2, 0), 8);
        due(13, "whose", x.by(2, 1), 1);
    }

    private static void share() {
        FarEditors x = three();
        due(14, "letters by 0", x.share(0, 0), 1);
        due(14, "letters by 1", x.share(1, 0), 0);
        due(14, "others' letters that 0 cut", x.share(0, 1), 0);
        due(14, "others' letters that 1 cut", x.share(1, 1), 3);
        x.cut(0, 1, 2);
        x.ticks(1);
        due(14, "its own z does not count, the told c does", x.share(0, 1), 1);
        due(14, "share(2, 0)", x.share(2, 0), NONE);
        due(14, "share(-1, 0)", x.share(-1, 0), NONE);
        due(14, "share(0, 2)", x.share(0, 2), NONE);
        due(14, "share(0, -1)", x.share(0, -1), NONE);
        FarEditors y = told("text abc editors 2;delay 0 0;delay 1 0;edit 0 -2;edit 1 -3;tick 1;");
        due(14, "what another cut ahead of it is not cut again", y.share(1, 1), 1);
        x.back();
        due(14, "taken back", x.share(0, 1), 0);
    }

    private static void together() {
        FarEditors x = three();
        due(15, "1 to 1", op((k, what) -> x.together(1, 1, k, what)), "+xy 3");
        due(15, "1 to 2", op((k, what) -> x.together(1, 2, k, what)), "-1 2");
        due(15, "1 to 3", op((k, what) -> x.together(1, 3, k, what)), "-1 2 +z");
        due(15, "2 to 3", op((k, what) -> x.together(2, 3, k, what)), "-3 2 +z");
        due(15, "steps of 1 to 3", x.together(1, 3, NONE, 1), 3);
        due(15, "what 0 of k NONE", x.together(1, 3, NONE, 0), NONE);
        due(15, "what 2 of k NONE", x.together(1, 3, NONE, 2), NONE);
        due(15, "k 3", x.together(1, 3, 3, 0), NONE);
        due(15, "k -2", x.together(1, 3, -2, 1), NONE);
        due(15, "0 to 1", x.together(0, 1, NONE, 1), NONE);
        due(15, "1 to 4", x.together(1, 4, NONE, 1), NONE);
        due(15, "3 to 2", x.together(3, 2, NONE, 1), NONE);
        due(15, "extremes", x.together(-2147483648, 2147483647, NONE, 1), NONE);
        FarEditors y = told("text abc editors 2;delay 0 0;edit 0 1 +pq -1;tick 1;edit 0 2 +r -1;tick 1;edit 0 +s-1;tick 1;");
        due(15, "letters in the order in which they are in the end", op((k, what) -> y.together(1, 3, k, what)), "+spr -2 1");
    }

    private static void without() {
        FarEditors x = three();
        due(16, "without 1: what it put is cut already", letters(k -> x.without(1, k)), "bcz");
        due(16, "without 2", letters(k -> x.without(2, k)), "xyabcz");
        due(16, "without 3", letters(k -> x.without(3, k)), "bc");
        due(16, "letters without 2", x.without(2, NONE), 6);
        due(16, "without(0, NONE)", x.without(0, NONE), NONE);
        due(16, "without(4, NONE)", x.without(4, NONE), NONE);
        due(16, "without(2, 6)", x.without(2, 6), NONE);
        due(16, "without(2, -2)", x.without(2, -2), NONE);
        due(16, "without a session", new FarEditors().without(1, NONE), NONE);
        due(16, "nothing is changed", text(x, NONE), "bcz");
        String one = "text abc editors 3;delay 0 0;delay 1 0;delay 2 0;edit 1 1 -1;tick 1;edit ";
        due(16, "ties 0, over a greater one: its own is ahead",
            letters(k -> told(one + "2 1 +x;tick 1;").without(1, k)), "abxc");
        due(16, "ties 0, over a lesser one: its own is behind",
            letters(k -> told(one + "0 1 +x;tick 1;").without(1, k)), "axbc");
        due(16, "ties 1, over a lesser one: its own is ahead",
            letters(k -> told(one + "0 1 +x;tick 1;ties 1;").without(1, k)), "abxc");
        due(16, "ties 2: its own is behind",
            letters(k -> told(one + "2 1 +x;tick 1;ties 2;").without(1, k)), "axbc");
        due(16, "over the same editor's: its own is behind",
            letters(k -> told(one + "1 1 +x;tick 1;").without(1, k)), "axbc");
    }

    // ---- ahead, and orders

    private static void quiet() {
        FarEditors x = told("text abc editors 2;delay 0 2;delay 1 5;");
        due(17, "now", x.quiet(), 0);
        x.put(0, 0, 1);
        due(17, "2 to the server, 5 to editor 1", x.quiet(), 7);
        due(17, "nothing is changed", x.has(3) + x.has(1), 0);
        x.ticks(3);
        due(17, "3 less", x.quiet(), 4);
        x.line(1, false);
        due(17, "an editor is off", x.quiet(), NONE);
        due(17, "without a session", new FarEditors().quiet(), NONE);
        FarEditors y = told("text abc editors 2;delay 0 9;delay 1 9;" + times("tick 99;", 10));
        y.put(0, 0, 1);
        due(17, "tick 990: 18 ticks would be too many", y.quiet(), NONE);
        y.delay(0, 4);
        y.back();
        y.back();
        y.delay(1, 5);
        y.delay(0, 4);
        y.put(0, 0, 1);
        due(17, "9 ticks are just enough", y.quiet(), 9);
        FarEditors z = told("text abc editors 2;delay 0 0;delay 1 0;edit 0 +a;edit 0 +b;");
        due(17, "with delay 0 the buffer goes a tick later", z.quiet(), 2);
    }

    private static void later() {
        FarEditors x = told("text abc editors 2;delay 0 2;delay 1 4;edit 0 +x;edit 1 3 +y;edit 0 -1 +z;");
        String[] want = {"abc", "abc", "xabc", "xabc", "xabcy", "xabcy", "zabcy"};
        for (int i = 0; i < want.length; i++) {
            int n = i;
            due(18, "later " + n, letters(k -> x.later(n, k)), want[n]);
        }
        due(18, "letters", x.later(99, NONE), 5);
        due(18, "later(100, NONE)", x.later(100, NONE), NONE);
        due(18, "later(-1, NONE)", x.later(-1, NONE), NONE);
        due(18, "later(6, 5)", x.later(6, 5), NONE);
        due(18, "later(6, -2)", x.later(6, -2), NONE);
        due(18, "without a session", new FarEditors().later(0, NONE), NONE);
        due(18, "nothing is changed", x.has(1) + x.has(3), 0);
        FarEditors y = told("text abc editors 2;" + times("tick 99;", 10));
        due(18, "up to tick 999", y.later(9, NONE), 3);
        due(18, "beyond tick 999", y.later(10, NONE), NONE);
    }

    private static FarEditors tied() {
        return told("text ab editors 3;ties 2;edit 0 1 +x;edit 1 1 +y;edit 2 1 +z;off 2;");
    }

    private static void orders() {
        FarEditors x = tied();
        due(19, "three editors, off or on", x.orders(0), 6);
        due(19, "by ties 2 each has an end of its own", x.orders(1), 6);
        due(19, "orders(2)", x.orders(2), NONE);
        due(19, "orders(-1)", x.orders(-1), NONE);
        due(19, "without a session", new FarEditors().orders(0), NONE);
        due(19, "with nobody", told("text ab editors 2;").orders(0), 1);
        due(19, "its end", told("text ab editors 2;").orders(1), 1);
        FarEditors y = told("text ab editors 4;edit 0 1 +x;edit 1 1 +y;edit 2 1 +z;edit 3 -1;");
        due(19, "four editors", y.orders(0), 24);
        due(19, "by ties 0 all ends are alike", y.orders(1), 1);
        x.ticks(1);
        due(19, "one is left", x.orders(0), 1);
        x.back();
        due(19, "and not", x.orders(0), 6);
        x.put(0, 0, 1);
        due(19, "a buffer is not on its way", x.orders(0), 6);
    }

    private static void ends() {
        FarEditors x = tied();
        String[] want = {"axyzb", "axzyb", "ayxzb", "ayzxb", "azxyb", "azyxb"};
        // what the server took first is ahead of what comes later
        for (int i = 0; i < want.length; i++) {
            int n = i;
            due(20, "end of order " + n, letters(k -> x.ends(n, k)), want[n]);
            due(20, "letters of order " + n, x.ends(n, NONE), 5);
        }
        due(20, "ends(6, NONE)", x.ends(6, NONE), NONE);
        due(20, "ends(-1, NONE)", x.ends(-1, NONE), NONE);
        due(20, "ends(0, 5)", x.ends(0, 5), NONE);
        due(20, "ends(0, -2)", x.ends(0, -2), NONE);
        due(20, "without a session", new FarEditors().ends(0, NONE), NONE);
        due(20, "with nobody", letters(k -> told("text ab editors 2;").ends(0, k)), "ab");
        due(20, "nothing is changed", x.has(1), 0);
        x.ticks(1);
        due(20, "two were taken, 0 first", letters(k -> x.ends(0, k)), "axyzb");
    }

    private static void seeAndFits() {
        FarEditors x = tied();
        due(22, "all fit, if nothing is seen", x.fits(NONE), 6);
        due(22, "the fifth", x.fits(4), 4);
        due(22, "no seventh", x.fits(6), NONE);
        due(22, "fits(-2)", x.fits(-2), NONE);
        due(22, "without a session", new FarEditors().fits(NONE), NONE);
        due(21, "z at 2", see(x, 2, 26), 1);
        due(22, "fits", x.fits(NONE), 2);
        due(22, "axzyb", x.fits(0), 1);
        due(22, "ayzxb", x.fits(1), 3);
        due(22, "no more", x.fits(2), NONE);
        due(21, "what is seen last counts alone", see(x, 1, 25, 5, 0), 2);
        due(22, "fits", x.fits(NONE), 2);
        due(22, "ayxzb", x.fits(0), 2);
        due(21, "what can't be", see(x, 5, 1), 1);
        due(22, "no fits", x.fits(NONE), 0);
        due(22, "none such", x.fits(0), NONE);
        due(23, "tells without fits", x.tells(0), NONE);
        due(21, "an empty tape", see(x), NONE);
        due(21, "an odd tape", see(x, 1, 2, 3), NONE);
        due(21, "place 240", see(x, 240, 0), NONE);
        due(21, "letter 27", see(x, 0, 27), NONE);
        due(21, "the tape goes", x.end(1), false);
        due(21, "all stays", x.has(7) + x.fits(NONE), 1);
        due(21, "place 239, letter 26", see(x, 239, 26, 0, 0), 2);
        int[] rows = new int[32];
        for (int i = 0; i < 16; i++) {
            rows[2 * i] = i + 5;
        }
        due(21, "16 rows", see(x, rows), 16);
        due(22, "all fit", x.fits(NONE), 6);
        due(21, "17 rows", see(x, new int[34]), NONE);
        due(21, "without a session", see(new FarEditors(), 0, 0), NONE);
        due(21, "status(1)", x.status(1), 5);
        due(21, "seeing is no act", x.has(8), 0);
        due(21, "the same place twice", see(x, 1, 24, 1, 25), 2);
        due(22, "nothing fits both", x.fits(NONE), 0);
    }

    private static void tells() {
        FarEditors x = tied();
        due(23, "the first place that leaves two of six", x.tells(0), 1);
        due(23, "at the most", x.tells(1), 2);
        see(x, 1, 24);
        due(23, "between axyzb and axzyb", x.tells(0), 2);
        due(23, "one is left", x.tells(1), 1);
        due(23, "tells(2)", x.tells(2), NONE);
        due(23, "tells(-1)", x.tells(-1), NONE);
        due(23, "without a session", new FarEditors().tells(0), NONE);
        FarEditors y = told("text ab editors 2;");
        due(23, "with nobody the first place", y.tells(0), 0);
        due(23, "one", y.tells(1), 1);
        // by ties 2, of one length always: what both cut goes once
        FarEditors z = told("text ab editors 2;ties 2;edit 0 1 +x;edit 1 1 +x;");
        due(23, "like ends: the first place, all left", z.tells(0) * 10 + z.tells(1), 2);
    }

    // ---- acts

    private static void edit() {
        FarEditors x = told("text abc editors 2;");
        due(24, "an edit", edit(x, 0, "1 +xy -1"), 4);
        due(24, "its text", text(x, 0), "axyc");
        due(24, "the tape goes", x.end(1), false);
        due(24, "as long as the text", edit(x, 0, "4 +z"), 5);
        due(24, "longer than the text", edit(x, 0, "5 -1"), NONE);
        due(24, "that tells no fault", x.fault(0), 0);
        due(24, "changes nothing", edit(x, 0, "3"), NONE);
        due(24, "with a fault", edit(x, 0, "1 +x ;"), NONE);
        due(24, "the fault", fault(x), "1 at 5");
        due(24, "the tape goes", x.end(1), false);
        due(24, "no such editor", edit(x, 2, "+x"), NONE);
        due(24, "the tape goes", x.end(1), false);
        due(24, "status(2)", x.status(2), 4);
        due(24, "edits", x.has(4), 2);
        due(24, "acts", x.has(8), 2);
        due(24, "40 steps", edit(x, 1, times("+a", 40)), 43);
        due(24, "the order of puts", text(x, 1).substring(0, 4), "aaaa");
        due(24, "41 steps", edit(x, 1, times("+a", 41)), NONE);
        due(24, "the fault", fault(x), "5 at 80");
        String[][] behind = {{"\0", "5 at 80"}, {";", "5 at 80"}, {" \n;", "5 at 82"}, {"7", "5 at 80"}, {" x", "5 at 81"},
            {"+", "5 at 80"}, {"-0", "5 at 80"}, {"\u00ff", "5 at 80"}, {"Z", "5 at 80"}};
        for (String[] one : behind) {
            due(24, "40 steps and " + one[0], edit(x, 1, times("+a", 40) + one[0]), NONE);
            due(24, "the fault of 40 steps and " + one[0], fault(x), one[1]);
        }
        due(24, "39 steps and what is none", edit(x, 1, times("+a", 39) + "?"), NONE);
        due(24, "the fault", fault(x), "1 at 78");
        due(24, "39 steps and a digit", edit(x, 1, times("+a", 39) + "7"), NONE);
        due(24, "the fault", fault(x), "1 at 78");
        due(24, "157 letters more can be put, not 158", edit(x, 1, times("+" + times("b", 20), 7) + "+" + times("b", 18)), NONE);
        due(24, "157 letters", edit(x, 1, times("+" + times("b", 20), 7) + "+" + times("b", 17)), 200);
        due(24, "200 are put", x.has(5), 200);
        due(24, "no more", x.put(0, 0, 1), NONE);
        due(24, "cuts are free", x.cut(0, 0, 1), 4);
        due(24, "an undo that puts can't be", x.undo(0), NONE);
        FarEditors y = told("text abc editors 2;");
        edit(y, 0, "+x -1");
        edit(y, 0, "+x -1");
        due(24, "the same letter put and cut is an edit", y.has(4), 2);
        FarEditors z = told("text a editors 2;");
        for (int i = 0; i < 100; i++) {
            due(24, "edit " + i, i % 2 == 0 ? z.put(0, 0, 1) : z.cut(0, 0, 1), 1 + (i + 1) % 2);
        }
        due(24, "100 edits at most", z.put(1, 0, 1), NONE);
        due(24, "100 edits at most, cuts, too", z.cut(1, 0, 1), NONE);
        due(24, "100 edits at most, undos, too", z.undo(0), NONE);
        due(24, "edits", z.has(4), 100);
    }

    private static void putAndCut() {
        FarEditors x = told("text abc editors 2;");
        due(25, "put ahead", x.put(0, 0, 26), 4);
        due(25, "put behind", x.put(0, 4, 1), 5);
        due(25, "the text", text(x, 0), "zabca");
        due(25, "the server has it not yet", text(x, NONE), "abc");
        due(25, "place 6", x.put(0, 6, 1), NONE);
        due(25, "place -1", x.put(0, -1, 1), NONE);
        due(25, "letter 0", x.put(0, 0, 0), NONE);
        due(25, "letter 27", x.put(0, 0, 27), NONE);
        due(25, "editor 2", x.put(2, 0, 1), NONE);
        due(25, "editor -1", x.put(-1, 0, 1), NONE);
        due(25, "status(2)", x.status(2), 6);
        due(26, "cut", x.cut(0, 1, 2), 3);
        due(26, "the text", text(x, 0), "zca");
        due(26, "beyond", x.cut(0, 2, 2), NONE);
        due(26, "at the end", x.cut(0, 3, 1), NONE);
        due(26, "none", x.cut(0, 0, 0), NONE);
        due(26, "fewer than none", x.cut(0, 0, -1), NONE);
        due(26, "place -1", x.cut(0, -1, 1), NONE);
        due(26, "extremes", x.cut(0, 2147483647, 2147483647), NONE);
        due(26, "editor 2", x.cut(2, 0, 1), NONE);
        due(26, "status(2)", x.status(2), 13);
        due(26, "all", x.cut(0, 0, 3), 0);
        due(26, "of nothing", x.cut(0, 0, 1), NONE);
    }

    private static void type() {
        FarEditors x = told("text abc editors 2;cursor 0 1;");
        due(27, "type", x.type(0, 24), 2);
        due(27, "type", x.type(0, 25), 3);
        due(27, "the text", text(x, 0), "axybc");
        due(27, "cut the one ahead", x.type(0, 0), 2);
        due(27, "the text", text(x, 0), "axbc");
        x.type(0, 0);
        x.type(0, 0);
        due(27, "the text", text(x, 0), "bc");
        due(27, "nothing is ahead", x.type(0, 0), NONE);
        due(27, "letter 27", x.type(0, 27), NONE);
        due(27, "letter -1", x.type(0, -1), NONE);
        due(27, "editor 2", x.type(2, 1), NONE);
        due(27, "status(2)", x.status(2), 4);
        due(27, "edits", x.has(4), 5);
        x.ticks(9);
        x.put(1, 0, 1);
        x.ticks(9);
        due(27, "what another puts at the cursor does not push it", x.editor(0, 2), 0);
        x.cut(1, 0, 1);
        x.undo(0);
        due(27, "what an undo puts at it does", x.editor(0, 2), 1);
    }

    private static void cursor() {
        FarEditors x = told("text abc editors 2;");
        due(28, "where it is", x.cursor(0, 0), false);
        due(28, "at the end", x.cursor(0, 3), true);
        due(28, "beyond", x.cursor(0, 4), false);
        due(28, "below", x.cursor(0, -1), false);
        due(28, "editor 2", x.cursor(2, 1), false);
        due(28, "editor -1", x.cursor(-1, 1), false);
        due(28, "status(3)", x.status(3), 5);
        due(28, "acts", x.has(8), 1);
        x.cut(0, 0, 2);
        due(28, "carried by a cut", x.editor(0, 2), 1);
        edit(x, 1, "+xx 2 +yy -1");
        x.ticks(9);
        due(28, "the text", text(x, 0), "xxyy");
        due(28, "carried by another's: all that is put ahead of it", x.editor(0, 2), 4);
        FarEditors y = told("text abcdef editors 2;cursor 0 3;cursor 1 3;");
        edit(y, 0, "-1 1 +xy 1 +z -1 +w");
        due(28, "a less, x, y, and by an edit of its own z and w", y.editor(0, 2), 6);
        y.ticks(2);
        due(28, "a less, x, y, and by another's neither z nor w", y.editor(1, 2), 4);
    }

    private static void marks() {
        FarEditors x = told("text abc editors 2;");
        due(29, "the first", x.marks(0, 0, 3, 0), 0);
        due(29, "the second", x.marks(0, 3, 3, 3), 1);
        due(29, "from beyond to", x.marks(0, 2, 1, 0), NONE);
        due(29, "to beyond the text", x.marks(0, 0, 4, 0), NONE);
        due(29, "from below", x.marks(0, -1, 1, 0), NONE);
        due(29, "grows 4", x.marks(0, 0, 0, 4), NONE);
        due(29, "grows -1", x.marks(0, 0, 0, -1), NONE);
        due(29, "editor 2", x.marks(2, 0, 0, 0), NONE);
        due(29, "another's first", x.marks(1, 1, 1, 1), 0);
        x.marks(0, 0, 0, 0);
        due(29, "the fourth", x.marks(0, 0, 0, 0), 3);
        due(29, "a fifth", x.marks(0, 0, 0, 0), NONE);
        due(29, "status(3)", x.status(3), 7);
        due(29, "acts", x.has(8), 5);
    }

    private static void clears() {
        FarEditors x = told("text abc editors 2;mark 0 0 1 0;mark 0 1 2 1;mark 0 2 3 2;");
        due(30, "mark 3", x.clears(0, 3), false);
        due(30, "mark -1", x.clears(0, -1), false);
        due(30, "editor 2", x.clears(2, 0), false);
        due(30, "mark 1", x.clears(0, 1), true);
        due(30, "those behind are one less", x.mark(0, 1, 0) * 100 + x.mark(0, 1, 1) * 10 + x.mark(0, 1, 2), 232);
        due(30, "the one ahead stays", x.mark(0, 0, 1), 1);
        due(30, "two are left", x.editor(0, 5), 2);
        due(30, "mark 2", x.clears(0, 2), false);
        due(30, "status(3)", x.status(3), 4);
        x.back();
        due(30, "taken back", x.mark(0, 1, 2), 1);
    }

    private static void undo() {
        FarEditors x = told("text abc editors 2;");
        due(31, "nothing to undo", x.undo(0), NONE);
        edit(x, 0, "1 +xy -1");
        due(31, "undone", x.undo(0), 3);
        due(31, "the text", text(x, 0), "abc");
        due(31, "it goes", x.editor(0, 6), 0);
        due(31, "it can be done again", x.editor(0, 7), 1);
        due(31, "it is an edit", x.has(4) * 10 + x.has(5), 23);
        due(31, "editor 2", x.undo(2), NONE);
        due(31, "status(2)", x.status(2), 2);
        for (int i = 1; i <= 10; i++) {
            x.put(0, 0, i);
        }
        due(31, "the last 8 stay", x.editor(0, 6), 8);
        for (int i = 0; i < 8; i++) {
            x.undo(0);
        }
        due(31, "two are left", text(x, 0), "baabc");
        due(31, "no more", x.undo(0), NONE);
        due(31, "8 dones", x.editor(0, 7), 8);
        // editor 0 puts x, editor 1 cuts it: the undo would change nothing
        FarEditors y = told("text abc editors 2;delay 0 0;delay 1 0;edit 0 +y;tick 1;edit 0 1 +x;tick 1;edit 1 1 -1;tick 1;");
        due(31, "two undos", y.editor(0, 6), 2);
        due(31, "the latest does nothing", op(y, 0, 2), "4");
        due(31, "the one ahead of it is undone", y.undo(0), 3);
        due(31, "both go", y.editor(0, 6), 0);
        due(31, "one can be done again", y.editor(0, 7), 1);
        FarEditors z = told("text abc editors 2;delay 0 0;delay 1 0;edit 0 +x;tick 1;edit 1 -1;tick 1;");
        due(31, "nothing that would change something", z.undo(0), NONE);
        due(31, "all stays", z.editor(0, 6), 1);
        due(31, "no act", z.has(8), 0);
        // editor 1 cut b; editor 0 puts p at that place: by ties it is ahead or behind what undo puts
        String tie = "text abc editors 2;delay 0 0;delay 1 0;edit 1 1 -1;tick 1;edit 0 1 +p;tick 1;";
        FarEditors t = told(tie);
        t.undo(1);
        due(31, "ties 0: the lesser editor's is ahead", text(t, 1), "apbc");
        t = told(tie + "ties 1;");
        t.undo(1);
        due(31, "ties 1: the greater editor's is ahead", text(t, 1), "abpc");
    }

    private static void redo() {
        FarEditors x = told("text abc editors 2;");
        due(32, "nothing to do again", x.redo(0), NONE);
        x.put(0, 3, 4);
        x.put(0, 0, 26);
        x.undo(0);
        x.undo(0);
        due(32, "done again", x.redo(0), 4);
        due(32, "the text", text(x, 0), "abcd");
        due(32, "dones are left", x.editor(0, 7), 1);
        due(32, "it can be undone", x.editor(0, 6), 1);
        due(32, "done again", x.redo(0), 5);
        due(32, "the text", text(x, 0), "zabcd");
        due(32, "no more", x.redo(0), NONE);
        due(32, "editor 2", x.redo(2), NONE);
        due(32, "status(2)", x.status(2), 3);
        due(32, "edits", x.has(4) * 10 + x.has(5), 64);
        x.undo(0);
        due(32, "undone once more", text(x, 0), "abcd");
        x.ticks(9);
        x.put(1, 0, 1);
        x.ticks(9);
        due(32, "dones are carried along", op(x, 0, 3), "+z 5");
        x.redo(0);
        due(32, "by ties 0 editor 0 is ahead", text(x, 0), "zaabcd");
    }

    private static void line() {
        FarEditors x = told("text abc editors 2;edit 0 +x;");
        due(33, "on already", x.line(0, true), false);
        due(33, "off", x.line(0, false), true);
        due(33, "off already", x.line(0, false), false);
        due(33, "editor 2", x.line(2, false), false);
        due(33, "status(3)", x.status(3), 3);
        x.ticks(5);
        due(33, "what is on its way from it stays", x.editor(0, 11), 1);
        due(33, "it may be changed", x.put(0, 0, 1), 5);
        x.line(0, true);
        due(33, "on: a tick, and it comes", x.ticks(1), 1);
        x.line(1, false);
        x.ticks(5);
        due(33, "nothing comes to one that is off", x.editor(1, 1), 0);
        x.line(1, true);
        x.ticks(1);
        due(33, "all that waited comes, each by its own ticks", x.editor(1, 1), 2);
    }

    private static void delay() {
        FarEditors x = told("text abc editors 2;");
        due(34, "it is that", x.delay(0, 1), false);
        due(34, "10", x.delay(0, 10), false);
        due(34, "-1", x.delay(0, -1), false);
        due(34, "editor 2", x.delay(2, 3), false);
        due(34, "status(3)", x.status(3), 4);
        x.put(0, 0, 1);
        due(34, "9", x.delay(0, 9), true);
        due(34, "what was sent keeps its own", x.editor(0, 11), 1);
        due(34, "delay", x.editor(0, 9), 9);
        x.delay(1, 5);
        x.ticks(1);
        x.put(1, 0, 2);
        due(34, "what is sent from now on", x.editor(1, 11), 5);
        // to editor 1: one with 5 left, later ones with 0: these wait, the first comes first
        FarEditors y = told("text abc editors 2;delay 0 0;delay 1 5;edit 0 +x;tick 1;");
        y.delay(1, 0);
        y.put(0, 0, 25);
        y.ticks(2);
        due(34, "on their way to it, in the order in which they were sent", y.editor(1, 10), 2);
        y.ticks(2);
        due(34, "the first has a tick left", y.editor(1, 1), 0);
        y.ticks(1);
        due(34, "then both come", y.editor(1, 1), 2);
        due(34, "the text", text(y, 1), "yxabc");
    }

    private static void ticks() {
        FarEditors x = told("text abc editors 2;edit 0 +x;edit 1 +y;");
        due(35, "ticks(0)", x.ticks(0), NONE);
        due(35, "ticks(100)", x.ticks(100), NONE);
        due(35, "ticks(-1)", x.ticks(-1), NONE);
        due(35, "the server takes both", x.ticks(1), 2);
        due(35, "editor 0 first", x.row(1, NONE, 0), 0);
        due(35, "nothing came back", x.editor(0, 1), 0);
        due(35, "no more", x.ticks(98), 0);
        due(35, "both came back", x.editor(0, 1) + x.editor(1, 1), 4);
        due(35, "tick", x.has(3), 99);
        for (int i = 0; i < 9; i++) {
            x.ticks(99);
        }
        due(35, "beyond tick 999", x.ticks(10), NONE);
        due(35, "tick 999", x.ticks(9), 0);
        due(35, "no more", x.ticks(1), NONE);
        due(35, "tick", x.has(3), 999);
        due(35, "status(4)", x.status(4), 5);
        due(35, "without a session", new FarEditors().ticks(1), NONE);
        FarEditors y = told("text abc editors 2;delay 0 0;delay 1 0;edit 0 +x;edit 0 1 +y;");
        due(35, "delay 0: there and back within a tick", y.ticks(1), 1);
        due(35, "the buffer is pending", y.editor(0, 3) * 10 + y.editor(0, 4), 10);
        due(35, "its own comes: a revision more", y.editor(0, 1), 1);
        due(35, "and it was sent", y.editor(0, 11), 0);
        due(35, "the next one", y.ticks(1), 1);
        due(35, "nothing is pending", y.editor(0, 3), 0);
        due(35, "all is quiet", y.has(9), 1);
        due(35, "texts", text(y, 0) + text(y, 1) + text(y, NONE), "xyabcxyabcxyabc");
    }

    private static void chance() {
        FarEditors x = told("text abc editors 2;");
        due(36, "chance(0)", x.chance(0), NONE);
        due(36, "chance(41)", x.chance(41), NONE);
        due(36, "chance(-1)", x.chance(-1), NONE);
        due(36, "without a session", new FarEditors().chance(1), NONE);
        due(36, "status(4)", x.status(4), 3);
        // seed 1: 1103527590 (draw of 4: 17242618 mod 4 = 2), 377401575 (of 2: 5896899 mod 2 = 1: editor 1),
        // 662824084 (of 3: 10356626 mod 3 = 2): its third letter is cut
        due(36, "one edit", x.chance(1), 1);
        due(36, "editor 1", text(x, 1), "ab");
        due(36, "editor 0", text(x, 0), "abc");
        due(36, "one act", x.has(8), 1);
        // 1147902781 (17935980 mod 4 = 0), 2035015474 (31797116 mod 2 = 0: editor 0),
        // 368800899 (5762514 mod 4 = 2: place 2), 1508029952 (23562968 mod 26 = 0: a)
        due(36, "one more", x.chance(1), 1);
        due(36, "editor 0", text(x, 0), "abac");
        due(36, "it can be undone", x.editor(0, 6), 1);
        long seed = 1508029952L;
        int ticks = 0;
        int edits = 0;
        for (int i = 0; i < 40; i++) {
            seed = (1103515245L * seed + 12345L) % 2147483648L;
            long kind = seed / 64 % 4;
            if (kind == 3) {
                ticks++;
            } else {
                edits++;
                for (int j = 0; j < (kind == 2 ? 2 : 3); j++) {
                    seed = (1103515245L * seed + 12345L) % 2147483648L;
                }
            }
        }
        due(36, "40 changes", x.chance(40), edits);
        due(36, "as many ticks as there are", x.has(3), ticks);
        due(36, "one act", x.has(8), 3);
        // of an empty text nothing is cut and no letter is drawn
        FarEditors y = told("text a editors 2;edit 0 -1;edit 1 -1;");
        due(36, "nothing to cut", y.chance(1), 0);
        due(36, "yet it is an act", y.has(8), 1);
        // 662824084 (10356626 mod 4 = 2), 1147902781 (of 2: 17935980 mod 2 = 0: editor 0 has none)
        due(36, "nothing to cut", y.chance(1), 0);
        // 2035015474 (31797116 mod 4 = 0), 368800899 (of 2: 5762514 mod 2 = 0), 1508029952 (of 1: 0), then the letter
        due(36, "a letter", y.chance(1), 1);
        due(36, "of editor 0", text(y, 0).length() * 10 + text(y, 1).length(), 10);
        FarEditors z = told("text abc editors 2;" + times("tick 99;", 10) + "tick 9;");
        z.chance(40);
        due(36, "no tick beyond 999", z.has(3), 999);
        z.chance(40);
        z.chance(40);
        z.chance(40);
        z.chance(40);
        due(36, "no edit beyond 100", z.has(4), 100);
    }

    private static void back() {
        FarEditors x = told("text abc editors 2;");
        due(37, "nothing to take back", x.back(), false);
        due(37, "status(5)", x.status(5), 1);
        x.cursor(0, 1);
        x.type(0, 24);
        x.marks(0, 0, 2, 0);
        x.line(1, false);
        x.delay(0, 4);
        x.ticks(3);
        x.undo(0);
        x.redo(0);
        x.clears(0, 0);
        x.chance(5);
        due(37, "acts", x.has(8), 10);
        x.back();
        due(37, "chance", text(x, 0) + x.has(4), "axbc3");
        x.back();
        due(37, "clears", x.editor(0, 5), 1);
        x.back();
        due(37, "redo", text(x, 0) + x.editor(0, 7), "abc1");
        x.back();
        due(37, "undo", text(x, 0) + x.editor(0, 7), "axbc0");
        x.back();
        due(37, "ticks", x.has(3) * 100 + x.has(1) * 10 + x.editor(0, 11), 1);
        x.back();
        due(37, "delay", x.editor(0, 9), 1);
        x.back();
        due(37, "line", x.editor(1, 8), 1);
        x.back();
        due(37, "marks", x.editor(0, 5), 0);
        x.back();
        due(37, "type", text(x, 0) + x.editor(0, 2) + x.editor(0, 3) + x.has(4) + x.has(5) + x.has(6), "abc10000");
        x.back();
        due(37, "cursor", x.editor(0, 2), 0);
        due(37, "no more", x.back(), false);
        FarEditors w = told("text abc editors 2;edit 0 +x;edit 0 -2;mark 0 1 2 1;");
        w.undo(0);
        w.put(0, 0, 26);
        w.marks(0, 0, 0, 0);
        w.back();
        w.back();
        due(37, "dones", op(w, 0, 3), "-2 2");
        w.back();
        due(37, "undos", op(w, 0, 2) + " of " + w.editor(0, 6), "+xa 2 of 2");
        due(37, "the text", text(w, 0), "bc");
        due(37, "marks", w.mark(0, 0, 0) * 100 + w.mark(0, 0, 1) * 10 + w.mark(0, 0, 2), 121);
        due(37, "the buffer", op(w, 0, 1), "-2 2");
        for (int i = 0; i < 25; i++) {
            x.put(0, i, 1 + i);
        }
        due(37, "the last 20", x.has(8), 20);
        for (int i = 0; i < 20; i++) {
            due(37, "back", x.back(), true);
        }
        due(37, "five are left", text(x, 0), "abcdeabc");
        due(37, "no more", x.back(), false);
        FarEditors y = told("text abc editors 2;");
        y.chance(2);
        y.back();
        y.chance(1);
        FarEditors z = told("text abc editors 2;");
        z.seed(1508029952);
        z.chance(1);
        due(37, "the seed stays", text(y, 0) + text(y, 1), text(z, 0) + text(z, 1));
    }

    private static void seed() {
        FarEditors x = told("text abc editors 2;");
        due(38, "below 0", x.seed(-1), false);
        due(38, "status(6)", x.status(6), 1);
        FarEditors y = told("text abc editors 2;");
        due(38, "the seed at first", y.seed(1), true);
        x.chance(30);
        y.chance(30);
        due(38, "is 1", text(x, 0) + text(x, 1), text(y, 0) + text(y, 1));
        due(38, "the greatest", x.seed(2147483647), true);
        due(38, "0", x.seed(0), true);
        due(38, "no act", x.has(8), 1);
        // seed 0: 12345 (192 mod 4 = 0), 1406932606 (21983321 mod 2 = 1), 654583775 (10227871 mod 4 = 3),
        // 1449466924 (22647920 mod 26 = 22: w)
        FarEditors z = told("text abc editors 2;");
        z.seed(0);
        z.chance(1);
        due(38, "by seed 0", text(z, 0) + text(z, 1), "abcabcw");
    }

    private static void status() {
        FarEditors x = new FarEditors();
        x.end(1);
        x.session();
        x.see();
        x.edit(0);
        x.put(0, 0, 1);
        x.cut(0, 0, 1);
        x.type(0, 1);
        x.undo(0);
        x.redo(0);
        x.cursor(0, 1);
        x.marks(0, 0, 0, 0);
        x.clears(0, 0);
        x.line(0, false);
        x.delay(0, 3);
        x.ticks(1);
        x.chance(1);
        x.back();
        x.seed(-5);
        int[] want = {1, 2, 6, 5, 2, 1, 1};
        for (int what = 0; what < want.length; what++) {
            due(39, "status(" + what + ")", x.status(what), want[what]);
        }
        due(39, "status(7)", x.status(7), NONE);
        due(39, "status(-1)", x.status(-1), NONE);
        x.has(99);
        x.letter(9, 9);
        x.later(0, 0);
        due(39, "what is only asked is not refused", x.status(0) + x.status(1) + x.status(2), 9);
    }

    public static void main(String[] args) {
        newObject();
        feed();
        end();
        session();
        faults();
        has();
        editor();
        letter();
        step();
        row();
        mark();
        was();
        by();
        share();
        together();
        without();
        quiet();
        later();
        orders();
        ends();
        seeAndFits();
        tells();
        edit();
        putAndCut();
        type();
        cursor();
        marks();
        clears();
        undo();
        redo();
        line();
        delay();
        ticks();
        chance();
        back();
        seed();
        status();
        tell();
    }
}
