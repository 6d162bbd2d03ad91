/** Each sentence of the document's Terms, II. (operations, editors, ticks, places, what is undone), at its boundaries. */
final class EditingTerms extends Quoting {
    private static final String TERMS = Document.TERMS;
    private static final String FAST = S + "delay 0 0;delay 1 0;";

    /** What is PENDING of editor 0 behind an OP of a text. */
    private static String pending(String text, String told) {
        FarEditors x = told("text " + text + " editors 2;");
        edit(x, 0, told);
        return op(x, 0, 0);
    }

    // ---- operations

    private static void forms() {
        says(TERMS, "II. An OP goes from a text of so many letters to another one, STEP by STEP; as it is told and asked: none of 0 letters,");
        due("no KEEP of 0 ahead", pending("abc", "+x"), "+x 3");
        due("no KEEP of 0 behind", pending("abc", "3 +x"), "3 +x");
        due("to a text of no letters", pending("abc", "-3"), "-3");
        FarEditors x = told("text a editors 2;edit 0 -1;edit 0 +b;");
        due("from a text of no letters", op(x, 0, 1), "+b");
        x.cut(0, 0, 1);
        due("from no letters to no letters", x.step(0, 1, 0, 0), NONE);

        says(TERMS, "no two of one kind side by side,");
        due("two of each", pending("abcd", "1 1 +p+q -1 -1"), "2 +pq -2");
        due("KEEP told up to the end", pending("abcd", "+p 1 2"), "+p 4");

        says(TERMS, "a PUT ahead of a CUT that is beside it,");
        due("a CUT, a PUT", pending("abc", "-1 +x"), "+x -1 2");
        due("a CUT, a PUT, and so on", pending("abc", "1 -1 +x -1 +y"), "1 +xy -2");
        due("a CUT up to the end, a PUT", pending("abc", "-3 +x"), "+x -3");

        says(TERMS, "KEEP at its end, too.");
        due("KEEP behind a CUT", pending("abc", "1 -1"), "1 -1 1");
        due("KEEP behind a PUT", pending("abc", "2 +x"), "2 +x 1");
    }

    private static void invertAndCompose() {
        says(TERMS, "TO INVERT one: what it PUT is CUT, what it CUT is PUT.");
        due("both", op(told("text abcd editors 2;edit 0 1 +xy -2;"), 0, 2), "1 +bc -2 1");
        due("a PUT at the end", op(told(S + "edit 0 3 +z;"), 0, 2), "3 -1");
        due("a PUT ahead of all", op(told(S + "edit 0 +z;"), 0, 2), "-1 3");
        due("all CUT", op(told(S + "edit 0 -3;"), 0, 2), "+abc");
        due("two places", op(told(S + "edit 0 -1 1 +z -1;"), 0, 2), "+a 1 +c -1");

        says(TERMS, "TO COMPOSE two: the one OP that does what the second does behind the first:"
            + " of letters that the first PUT and the second CUT nothing is left;");
        String first = S + "edit 0 +w;edit 0 1 +xyz;";
        due("all of them", op(told(first + "edit 0 1 -3;"), 0, 1), "4");
        due("the first", op(told(first + "edit 0 1 -1;"), 0, 1), "1 +yz 3");
        due("the one between", op(told(first + "edit 0 2 -1;"), 0, 1), "1 +xz 3");
        due("the last, and a letter behind", op(told(first + "edit 0 3 -2;"), 0, 1), "1 +xy -1 2");
        due("the first, and a letter ahead", op(told(first + "edit 0 -2;"), 0, 1), "+yz -1 3");
        due("all, and of the text all", op(told(first + "edit 0 -7;"), 0, 1), "-4");
        due("all CUT, then a PUT", op(told(S + "edit 0 +w;edit 0 -4;edit 0 +a;"), 0, 1), "+a -4");
        due("all CUT, then PUTS and CUTS", op(told(S + "edit 0 +w;edit 0 -4;edit 0 +ab;edit 0 -1;edit 0 1 +c;"), 0, 1), "+bc -4");

        says(TERMS, "at one place what the second PUT, what the first PUT that stays, what either CUT come together:"
            + " letters in the order in which they are in the end, ahead of what is CUT.");
        // a b c d z; a p q c d z; a p r d z; a s p r d z; a s p r t d z
        FarEditors x = told("text abcd editors 2;edit 0 4 +z;edit 0 1 +pq -1;edit 0 2 -1 +r -1;");
        due("p stays, r is put, b and c are cut", op(x, 0, 1), "1 +pr -2 2");
        edit(x, 0, "1 +s");
        due("s ahead of what was put", op(x, 0, 1), "1 +spr -2 2");
        edit(x, 0, "4 +t");
        due("t behind it", op(x, 0, 1), "1 +sprt -2 2");
        due("ahead of all", op(told(S + "edit 0 +w;edit 0 -1;edit 0 +x;edit 0 -1 +y;"), 0, 1), "+y -1 3");
        due("at the end", op(told(S + "edit 0 +w;edit 0 3 -1;edit 0 3 +x;edit 0 4 +y;"), 0, 1), "3 +xy -1");
    }

    private static void turns() {
        says(TERMS, "TO TURN an OP a of an EDITOR over an OP b that the server took, both of one text:"
            + " a' is of the text behind b, b' of that behind a, a' behind b and b' behind a do the same:");
        String[] ops = {"+x", "3 +x", "-3", "1 -1", "1 +xy -1", "-1 +p 1 +q -1 +r", "-2", "1 -2", "+p -3"};
        for (String a : ops) {
            for (String b : ops) {
                for (int ties = 0; ties <= 2; ties++) {
                    FarEditors x = told(S + "ties " + ties + ";edit 0 " + a + ";edit 1 " + b + ";tick 9;");
                    due("OPS taken of " + a + " and " + b, x.has(1), 2);
                    textOfAll(x);
                }
            }
        }

        says(TERMS, "what either KEEPS or CUTS is as it is there;");
        due("b is kept by both", textOfAll(told(S + "edit 0 -1;edit 1 2 -1;tick 9;")), "b");
        due("what is cut by one alone", row(told(S + "edit 0 -1;edit 1 2 -1;tick 9;"), 2), "1 -1");

        says(TERMS, "what both CUT is CUT by neither any more;");
        due("the first letter", row(told(S + "edit 0 -1;edit 1 -1;tick 9;"), 2), "2");
        due("the last letter", row(told(S + "edit 0 2 -1;edit 1 2 -1;tick 9;"), 2), "2");
        due("one of two", row(told(S + "edit 0 -2;edit 1 1 -2;tick 9;"), 2), "-1");
        due("all: no STEP", told(S + "edit 0 -3;edit 1 -3;tick 9;").row(2, NONE, 1), 0);
        due("all", textOfAll(told(S + "edit 0 -3;edit 1 -3;tick 9;")), "");

        says(TERMS, "what one PUTS the other one KEEPS;");
        due("ahead of it", row(told(S + "edit 0 1 +xy;edit 1 3 +z;tick 9;"), 2), "5 +z");
        due("behind it", row(told(S + "edit 0 1 +xy;edit 1 +z;tick 9;"), 2), "+z 5");
        due("within what is cut", row(told(S + "edit 0 1 +xy;edit 1 -3;tick 9;"), 2), "-1 2 -2");
    }

    private static void ties() {
        says(TERMS, "where both PUT at one place (nothing but PUTS between, by their STEPS), by ties 0 what the EDITOR"
            + " of less number PUT is ahead, by 1 that of the greater one, by 2, and of one and the same EDITOR, what b PUT.");
        String[] places = {"+", "1 +", "3 +"};
        String[] heads = {"", "a", "abc"};
        String[] tails = {"abc", "bc", ""};
        String[] firstIsTaken = {"xy", "yx", "xy"};
        String[] secondIsTaken = {"xy", "yx", "yx"};
        for (int p = 0; p < places.length; p++) {
            for (int ties = 0; ties <= 2; ties++) {
                String s = S + "ties " + ties + ";edit 0 " + places[p] + "x;edit 1 " + places[p] + "y;tick 9;";
                due("editor 0 first, ties " + ties, textOfAll(told(s)), heads[p] + firstIsTaken[ties] + tails[p]);
                due("editor 1 first, ties " + ties, textOfAll(told(s + "delay 0 2;")), heads[p] + secondIsTaken[ties] + tails[p]);
            }
        }
        for (int ties = 0; ties <= 2; ties++) {
            String s = S + "ties " + ties + ";";
            due("a CUT between", textOfAll(told(s + "edit 0 -1 +x;edit 1 1 +y;tick 9;")), "xybc");
            due("a CUT between", textOfAll(told(s + "edit 0 1 +x;edit 1 -1 +y;tick 9;")), "yxbc");
            due("a KEEP between", textOfAll(told(s + "edit 0 1 +x;edit 1 +y;tick 9;")), "yaxbc");
            due("ahead of one letter that both cut", textOfAll(told(s + "edit 0 -1 +x;edit 1 -1 +y;tick 9;")), firstIsTaken[ties] + "bc");
            due("of no letters", textOfAll(told("text a editors 2;ties " + ties + ";edit 0 -1;tick 3;edit 0 +x;edit 1 +y;tick 9;")),
                firstIsTaken[ties]);
            FarEditors x = told(s + "delay 1 0;edit 1 1 -1;tick 1;edit 1 1 +x;tick 1;");
            due("one and the same editor, ties " + ties, letters(k -> x.without(1, k)), "axbc");
        }
        String three = "text ab editors 3;edit 0 1 +x;edit 1 1 +y;edit 2 1 +z;tick 9;";
        due("of three, ties 0", textOfAll(told(three)), "axyzb");
        due("of three, ties 1", textOfAll(told(three + "ties 1;")), "azyxb");
        due("of three, ties 2", textOfAll(told(three + "ties 2;delay 0 5;delay 1 3;")), "azyxb");
    }

    // ---- editors

    private static String stateOf(FarEditors x, int e) {
        return x.editor(e, 1) + " " + x.editor(e, 3) + " " + x.editor(e, 4) + " " + x.editor(e, 11);
    }

    private static void editorsHave() {
        says(TERMS, "An EDITOR has a TEXT, a REVISION (how many OPS of the server it has), PENDING (what was sent, turned over"
            + " what came since) or not, a BUFFER (what was done since, composed) or not.");
        FarEditors x = told(S + "delay 1 5;");
        due("neither", stateOf(x, 1), "0 0 0 -1");
        x.put(1, 3, 25);
        due("PENDING", stateOf(x, 1), "0 1 0 5");
        due("what was sent", op(x, 1, 0), "3 +y");
        x.put(1, 0, 26);
        due("PENDING and BUFFER", stateOf(x, 1), "0 1 1 5");
        x.delay(1, 0);
        x.put(0, 0, 24);
        x.ticks(1);
        due("a REVISION more", stateOf(x, 1), "1 1 1 4");
        due("turned over what came since", op(x, 1, 0), "4 +y");
        due("the BUFFER, too", op(x, 1, 1), "1 +z 4");
        due("the TEXT", text(x, 1), "xzabcy");
    }

    private static void edits() {
        says(TERMS, "AN EDIT is an OP of its TEXT that changes something");
        due("as long as the TEXT", edit(told(S), 0, "3 +x"), 4);
        due("longer", edit(told(S), 0, "4 +x"), NONE);
        due("CUTS all", edit(told(S), 0, "-3"), 0);
        due("CUTS more", edit(told(S), 0, "-4"), NONE);
        due("KEEPS all", edit(told(S), 0, "3"), NONE);
        due("KEEPS some", edit(told(S), 0, "1 1"), NONE);
        due("PUTS what it CUTS", edit(told(S), 0, "+a -1"), 3);
        FarEditors x = told("text a editors 2;edit 0 -1;");
        due("of no letters, a KEEP", edit(x, 0, "1"), NONE);
        due("of no letters, a CUT", edit(x, 0, "-1"), NONE);
        due("of no letters, a PUT", edit(x, 0, "+a"), 1);

        says(TERMS, "(100 EDITS, 200 letters PUT by EDITS in all):");
        x = told("text a editors 2;");
        for (int i = 0; i < 99; i++) {
            due("edit " + i, (i % 4 < 2 ? x.put(i % 2, 0, 1) : x.cut(i % 2, 0, 1)) != NONE, true);
        }
        due("99", x.has(4), 99);
        due("the 100th, an undo", x.undo(0) != NONE, true);
        due("the 101st, a PUT", x.put(1, 0, 1), NONE);
        due("a CUT", x.cut(1, 0, 1), NONE);
        due("an undo", x.undo(1), NONE);
        due("a redo", x.redo(0), NONE);
        due("100", x.has(4), 100);
        x.back();
        due("one is taken back", x.has(4), 99);
        due("another 100th", x.cut(1, 0, 1) != NONE, true);
        x = told(S + times("edit 0 +" + times("q", 20) + ";", 9) + "edit 1 +" + times("q", 19) + ";");
        due("199 letters", x.has(5), 199);
        due("two more", edit(x, 0, "+xy"), NONE);
        due("the 200th", edit(x, 1, "+x"), 23);
        due("200", x.has(5), 200);
        due("the 201st", x.put(0, 0, 1), NONE);
        due("the 201st, by another", x.type(1, 1), NONE);
        due("with a CUT", edit(x, 1, "+x -1"), NONE);
        due("a CUT", x.cut(1, 0, 1), 22);
        due("an undo that PUTS", x.undo(1), NONE);
        due("all stays", x.editor(1, 6), 3);
        due("an undo that CUTS", x.undo(0), 163);
        due("a redo that PUTS", x.redo(0), NONE);
    }

    private static void sending() {
        says(TERMS, "its TEXT is changed; with PENDING it is composed into the BUFFER, else it is PENDING and SENT"
            + " (with its REVISION, as it is then).");
        FarEditors x = told(S);
        x.put(0, 0, 24);
        due("its TEXT, no other", text(x, 0) + text(x, 1) + text(x, NONE), "xabcabcabc");
        due("PENDING and SENT", stateOf(x, 0) + " " + x.has(6), "0 1 0 1 1");
        x.put(0, 0, 25);
        due("into the BUFFER, not SENT", stateOf(x, 0) + " " + x.has(6), "0 1 1 1 1");
        x.put(0, 0, 26);
        due("composed", op(x, 0, 1), "+zy 4");
        x = told(FAST + "edit 0 +x;tick 1;edit 1 +y;tick 1;");
        due("by REVISION 1 it is of the text behind OP 1", textOfAll(x), "yxabc");
        due("and not turned over it", row(x, 2), "+y 4");

        says(TERMS, "The server, when that comes, TURNS it over all OPS behind that REVISION, one after the other;"
            + " that is the next OP of its row, its TEXT is changed; it is SENT to all EDITORS.");
        x = told("text abc editors 4;delay 0 0;delay 1 9;off 3;edit 1 3 +y;edit 0 +x;tick 1;edit 0 +w;tick 7;");
        due("two, as they were sent", row(x, 1) + ", " + row(x, 2), "+x 3, +w 4");
        due("the third comes", x.ticks(1), 1);
        due("turned over two", row(x, 3), "5 +y");
        due("its TEXT", text(x, NONE), "wxabcy");
        due("SENT to all, to itself and to one that is off, too",
            "" + x.editor(0, 10) + x.editor(1, 10) + x.editor(2, 10) + x.editor(3, 10), "0313");

        says(TERMS, "An EDITOR to whom its own comes has a REVISION more; it is not PENDING any more; the BUFFER,"
            + " if there is one, is (PENDING, SENT).");
        x = told(FAST + "edit 0 +x;tick 1;");
        due("without a BUFFER", stateOf(x, 0), "1 0 0 -1");
        due("its TEXT stays", text(x, 0), "xabc");
        x = told(S + "delay 0 3;edit 0 +x;edit 0 +y;edit 0 +z;tick 5;");
        due("ahead of it", stateOf(x, 0), "0 1 1 -1");
        x.ticks(1);
        due("with a BUFFER", stateOf(x, 0), "1 1 0 3");
        due("what was the BUFFER", op(x, 0, 0), "+zy 4");
        x.ticks(6);
        due("and comes itself", stateOf(x, 0), "2 0 0 -1");
    }

    private static void receiving() {
        says(TERMS, "One to whom another's comes has a REVISION more; PENDING and it are turned over each other, the BUFFER and"
            + " what that gives, likewise; what that gives changes its TEXT, carries CURSOR, MARKS, UNDOS, DONES along.");
        FarEditors x = told(S + "cursor 1 3;mark 1 2 3 0;edit 0 +x;tick 2;");
        due("with neither", stateOf(x, 1), "1 0 0 -1");
        due("all is carried", text(x, 1) + x.editor(1, 2) + x.mark(1, 0, 0) + x.mark(1, 0, 1), "xabc434");
        // editor 1: abc, bc (PENDING), bcz (BUFFER), bcz with y put and cut again; another cuts a and c and puts x at the end
        x = told(S + "delay 1 9;mark 1 0 2 0;edit 1 -1;edit 1 2 +z;edit 1 +y;cursor 1 4;");
        x.undo(1);
        x.delay(1, 0);
        edit(x, 0, "-1 1 -1 +x");
        x.ticks(1);
        due("both", stateOf(x, 1), "1 1 1 8");
        due("PENDING: both CUT a", op(x, 1, 0), "2");
        // by the steps x stands ahead of the c that is cut, z behind it
        due("the BUFFER", op(x, 1, 1), "2 +z");
        due("the TEXT", text(x, 1), "bxz");
        due("CURSOR and MARK", x.editor(1, 2) + "" + x.mark(1, 0, 0) + x.mark(1, 0, 1), "301");
        due("the latest of the UNDOS", op(x, 1, 2) + " of " + x.editor(1, 6), "2 -1 of 2");
        due("the latest of the DONES", op(x, 1, 3) + " of " + x.editor(1, 7), "+y 3 of 1");
        x.ticks(99);
        due("in the end", textOfAll(x), "bxz");
    }

    // ---- ticks

    private static void ticks() {
        says(TERMS, "What is SENT takes TICKS by the delay of the EDITOR as it is then.");
        FarEditors x = told(S + "delay 0 9;edit 0 +x;");
        due("9", x.editor(0, 11), 9);
        x.delay(0, 0);
        due("it keeps its own", x.editor(0, 11), 9);
        due("8 TICKS", x.ticks(8), 0);
        due("the 9th", x.ticks(1), 1);
        due("back by delay 0 at once", stateOf(x, 0), "1 0 0 -1");
        x = told("text abc editors 4;delay 0 0;delay 1 1;delay 2 2;delay 3 9;edit 0 +x;");
        String[] revisions = {"0000", "1000", "1100", "1110", "1110", "1110", "1110", "1110", "1110", "1110", "1111"};
        for (int tick = 0; tick < revisions.length; tick++) {
            String got = "" + x.editor(0, 1) + x.editor(1, 1) + x.editor(2, 1) + x.editor(3, 1);
            due("REVISIONS by TICK " + tick, got, revisions[tick]);
            x.ticks(1);
        }

        says(TERMS, "A TICK: (a) of all that is on its way from or to EDITORS that are ON a TICK less is left (0 stays 0);");
        x = told(S + "delay 0 3;edit 0 +x;off 0;tick 5;");
        due("from one that is off", x.editor(0, 11), 3);
        x.line(0, true);
        x.ticks(1);
        due("from one that is on", x.editor(0, 11), 2);
        x = told(S + "delay 0 0;delay 1 3;edit 0 +x;tick 1;off 1;tick 9;on 1;tick 2;");
        due("to one that was off", x.editor(1, 1), 0);
        x.ticks(1);
        due("three TICKS on", x.editor(1, 1), 1);
        x = told(FAST + "edit 0 +x;off 0;tick 5;");
        due("0 stays 0, from", x.editor(0, 11), 0);
        x.line(0, true);
        due("and comes", x.ticks(1), 1);
        x = told(S + "delay 0 0;delay 1 9;edit 0 +x;tick 1;");
        x.delay(1, 0);
        x.put(0, 0, 25);
        x.ticks(8);
        due("0 stays 0, to", x.editor(1, 10) + "" + x.editor(1, 1), "20");
        x.ticks(1);
        due("and comes", x.editor(1, 10) + "" + x.editor(1, 1), "02");

        says(TERMS, "(b) by EDITORS that are ON: what is on its way from it with 0 left comes;");
        x = told("text abc editors 4;delay 2 2;off 1;edit 3 +d;edit 2 +c;edit 1 +b;edit 0 +a;");
        due("not from one that is off, not with 1 left", x.ticks(1), 2);
        due("the lesser editor first", x.row(1, NONE, 0) + "" + x.row(2, NONE, 0), "03");
        due("with 0 left", x.ticks(1), 1);
        x.line(1, true);
        due("on", x.ticks(1), 1);
        due("all four", x.row(3, NONE, 0) + "" + x.row(4, NONE, 0), "21");
    }

    private static void comings() {
        says(TERMS, "(c) by EDITORS that are ON: as long as the first of what is on its way to it, in the order in which it was"
            + " SENT, has 0 left, that comes.");
        String four = "text abc editors 4;delay 0 0;delay 1 0;delay 2 0;";
        FarEditors x = told(four + "delay 3 0;off 3;edit 0 +a;edit 1 +b;edit 2 +c;tick 1;");
        due("all of them", "" + x.editor(0, 1) + x.editor(1, 1) + x.editor(2, 1), "333");
        due("none to one that is off", x.editor(3, 1) + "" + x.editor(3, 10), "03");
        x.line(3, true);
        x.ticks(1);
        due("all of them, on again", x.editor(3, 1) + "" + x.editor(3, 10), "30");
        x = told(four + "delay 3 1;edit 0 +a;tick 1;");
        x.delay(3, 3);
        x.put(0, 0, 2);
        x.ticks(1);
        due("the first has 0 left, the second has not", x.editor(3, 1) + "" + x.editor(3, 10), "11");
        x.delay(3, 0);
        x.put(0, 0, 3);
        x.ticks(1);
        due("the third, with 0 left, waits for the second", x.editor(3, 1) + "" + x.editor(3, 10), "12");
        x.ticks(2);
        due("both", x.editor(3, 1) + "" + x.editor(3, 10), "30");
        due("in their order", text(x, 3), "cbaabc");

        says(TERMS, "TICK is one more (999 at most).");
        x = told(S);
        due("the first", x.ticks(1), 0);
        due("1", x.has(3), 1);
        x = told(S + times("tick 99;", 10) + "tick 8;");
        due("998", x.has(3), 998);
        due("two more", x.ticks(2), NONE);
        due("one more", x.ticks(1), 0);
        due("999", x.has(3), 999);
        due("one more", x.ticks(1), NONE);
        due("999", x.has(3), 999);

        says(TERMS, "QUIET it is, if nothing is on its way (then nothing is PENDING).");
        x = told(S);
        String quiet = "" + x.has(9);
        x.put(0, 0, 1);
        for (int i = 0; i < 4; i++) {
            quiet += x.has(9);
            due("nothing on its way", x.has(9) == 1, x.has(6) == 0);
            due("nothing PENDING", x.has(9) == 1 && x.editor(0, 3) + x.editor(1, 3) > 0, false);
            x.ticks(1);
        }
        due("QUIET by TICKS", quiet, "10011");
        due("to one that is off", told(FAST + "off 1;edit 0 +x;tick 9;").has(9), 0);
        due("from one that is off", told(FAST + "off 1;edit 1 +x;tick 9;").has(9), 0);
    }

    // ---- places

    /** Where the CURSORS of all places of "abcdef" are behind an OP of their own editor, or of another one. */
    private static String cursors(String told, boolean isOwn) {
        StringBuilder b = new StringBuilder();
        for (int p = 0; p <= 6; p++) {
            FarEditors x = told("text abcdef editors 2;delay 0 0;delay 1 0;cursor 0 " + p + ";");
            edit(x, isOwn ? 0 : 1, told);
            x.ticks(2);
            b.append(p > 0 ? " " : "").append(x.editor(0, 2));
        }
        return b.toString();
    }

    private static String marks(int from, int to, int grows, String told, int editor) {
        FarEditors x = told("text abcdef editors 2;delay 0 0;delay 1 0;mark 0 " + from + " " + to + " " + grows + ";");
        edit(x, editor, told);
        x.ticks(2);
        return x.mark(0, 0, 0) + " " + x.mark(0, 0, 1);
    }

    private static void places() {
        says(TERMS, "A place p of the TEXT is CARRIED by an OP: by what is PUT ahead of p so many more,"
            + " by what is CUT ahead of p so many less;");
        due("a CUT within", cursors("1 -3", false), "0 1 1 1 1 2 3");
        due("a CUT of all", cursors("-6", false), "0 0 0 0 0 0 0");
        due("a CUT of the first", cursors("-1", true), "0 0 1 2 3 4 5");
        due("a CUT of the last", cursors("5 -1", true), "0 1 2 3 4 5 5");
        due("a PUT within", cursors("2 +xy", false), "0 1 2 5 6 7 8");
        due("a PUT ahead of a CUT", cursors("1 +xy -3", false), "0 1 3 3 3 4 5");
        due("a PUT told behind a CUT", cursors("1 -3 +xy", false), "0 1 3 3 3 4 5");
        due("many STEPS, another's", cursors("-1 1 +xy 1 -1 +z", false), "0 0 1 4 5 6 7");
        due("many STEPS, its own", cursors("-1 1 +xy 1 -1 +z", true), "0 0 3 5 5 6 7");

        says(TERMS, "by what is PUT at p itself more or not: a CURSOR by an EDIT of its EDITOR more, by another's not;");
        due("within, its own", cursors("2 +xy", true), "0 1 4 5 6 7 8");
        due("ahead of all, its own", cursors("+x", true), "1 2 3 4 5 6 7");
        due("ahead of all, another's", cursors("+x", false), "0 2 3 4 5 6 7");
        due("at the end, its own", cursors("6 +x", true), "0 1 2 3 4 5 7");
        due("at the end, another's", cursors("6 +x", false), "0 1 2 3 4 5 6");
        FarEditors x = told(S + "edit 0 1 -1;cursor 0 1;");
        x.undo(0);
        due("by an undo of its own", x.editor(0, 2), 2);
        x.undo(0);
        x.cursor(0, 1);
        x.redo(0);
        due("by a redo that CUTS behind it", x.editor(0, 2), 1);

        says(TERMS, "of a MARK (FROM, TO, grows 0 .. 3) FROM more, unless grows is odd, TO not, unless it is 2 or 3;");
        String[] atFrom = {"2 4", "1 4", "2 4", "1 4"};
        String[] atTo = {"1 3", "1 3", "1 4", "1 4"};
        for (int grows = 0; grows <= 3; grows++) {
            for (int editor = 0; editor <= 1; editor++) {
                due("a PUT at FROM, grows " + grows, marks(1, 3, grows, "1 +x", editor), atFrom[grows]);
                due("a PUT at TO, grows " + grows, marks(1, 3, grows, "3 +x", editor), atTo[grows]);
            }
            due("a PUT between, grows " + grows, marks(1, 3, grows, "2 +x", 0), "1 4");
            due("a CUT at TO, grows " + grows, marks(1, 3, grows, "3 -1", 0), "1 3");
            due("a CUT at FROM, grows " + grows, marks(1, 3, grows, "1 -1", 0), "1 2");
            due("all CUT, grows " + grows, marks(0, 6, grows, "-6", 0), "0 0");
        }
        FarEditors four = told("text abcdef editors 2;mark 0 1 2 0;mark 0 2 3 0;mark 0 3 4 0;mark 0 4 5 0;edit 0 1 +x;");
        String all = "";
        for (int k = 0; k < 4; k++) {
            all += four.mark(0, k, 0) + "" + four.mark(0, k, 1) + four.mark(0, k, 2) + " ";
        }
        due("all four", all, "230 340 450 560 ");
        due("the ends, grows 3", marks(0, 6, 3, "+x 6 +y", 1), "0 8");
        due("the ends, grows 0", marks(0, 6, 0, "+x 6 +y", 1), "1 7");

        says(TERMS, "TO is no less than FROM.");
        String[] atBoth = {"4 4", "2 2", "4 4", "2 4"};
        for (int grows = 0; grows <= 3; grows++) {
            due("two PUT at FROM and TO, grows " + grows, marks(2, 2, grows, "2 +xy", 1), atBoth[grows]);
            due("a CUT around both, grows " + grows, marks(2, 4, grows, "1 -4", 1), "1 1");
        }

        says(TERMS, "CURSORS are 0 at first.");
        x = told("text abc editors 4;");
        for (int e = 0; e < 4; e++) {
            due("of editor " + e, x.editor(e, 2), 0);
        }
    }

    // ---- what is undone and done again

    private static void undos() {
        says(TERMS, "An EDIT (no undo, no redo) puts its inverse on the UNDOS (the last 8 stay), all DONES go;");
        FarEditors x = told(S);
        for (int i = 1; i <= 9; i++) {
            x.put(0, 0, i);
            due("UNDOS behind " + i, x.editor(0, 6), Math.min(i, 8));
        }
        for (int i = 1; i <= 8; i++) {
            due("undo " + i, x.undo(0), 12 - i);
        }
        due("the first one has gone", x.undo(0), NONE);
        due("its letter stays", text(x, 0), "aabc");
        due("DONES", x.editor(0, 7), 8);
        String[] texts = new String[13];
        FarEditors y = told(S);
        for (int i = 1; i <= 12; i++) {
            edit(y, 0, i % 3 == 0 ? "1 -1" : i % 2 + 1 + " +" + (char) ('k' + i));
            texts[i] = text(y, 0);
        }
        for (int i = 11; i >= 4; i--) {
            y.undo(0);
            due("behind " + i + " of 12 EDITS", text(y, 0), texts[i]);
        }
        due("none of the first four can be undone", y.undo(0), NONE);
        for (int i = 5; i <= 12; i++) {
            y.redo(0);
            due("behind " + i + " of 12 EDITS again", text(y, 0), texts[i]);
        }
        x.redo(0);
        due("redo lets DONES be", x.editor(0, 7), 7);
        x.undo(0);
        due("undo, too", x.editor(0, 7), 8);
        x.put(0, 99, 1);
        due("and an EDIT that can't be", x.editor(0, 7), 8);
        x.put(1, 0, 1);
        due("and that of another", x.editor(0, 7), 8);
        x.cut(0, 0, 1);
        due("by an EDIT they go", x.editor(0, 7) + "" + x.editor(0, 6), "01");

        says(TERMS, "undo: the latest one of the UNDOS that changes something (those behind it go) is an EDIT, goes,"
            + " its inverse is on the DONES (the last 8);");
        x = told(S);
        due("without one", x.undo(0), NONE);
        x.cut(0, 0, 3);
        due("the only one", x.undo(0), 3);
        due("goes, its inverse is on the DONES", x.editor(0, 6) + "" + x.editor(0, 7) + op(x, 0, 3), "01-3");
        due("is an EDIT", x.has(4) + "" + x.has(5), "23");
        // editor 0 puts x and y, editor 1 cuts y: the latest does nothing any more
        x = told(FAST + "edit 0 +x;tick 1;edit 0 +y;tick 1;edit 1 -1;tick 1;");
        due("the latest", op(x, 0, 2) + " of " + x.editor(0, 6), "4 of 2");
        due("the one ahead of it", x.undo(0), 3);
        due("both have gone", x.editor(0, 6) + "" + x.editor(0, 7), "01");
        x = told(FAST + "edit 0 +x;tick 1;edit 0 +y;tick 1;edit 1 -2;tick 1;");
        due("none that changes something", x.undo(0), NONE);
        due("all stay", x.editor(0, 6) + "" + x.editor(0, 7), "20");

        says(TERMS, "redo: likewise of DONES, onto UNDOS.");
        x = told(S);
        due("without one", x.redo(0), NONE);
        x.cut(0, 0, 3);
        x.undo(0);
        due("the only one", x.redo(0), 0);
        due("its inverse is on the UNDOS", x.editor(0, 7) + op(x, 0, 2), "0+abc");
        // editor 0 cut a, then b, and undid both; editor 1 cuts a: the latest of the DONES does nothing any more
        x = told(FAST);
        x.cut(0, 0, 1);
        x.cut(0, 0, 1);
        x.undo(0);
        x.undo(0);
        x.ticks(3);
        x.cut(1, 0, 1);
        x.ticks(1);
        due("the latest", op(x, 0, 3) + " of " + x.editor(0, 7), "2 of 2");
        due("the one ahead of it", x.redo(0), 1);
        due("both have gone", text(x, 0) + x.editor(0, 7) + x.editor(0, 6), "c01");
        x = told(FAST);
        x.cut(0, 0, 1);
        x.undo(0);
        x.ticks(2);
        x.cut(1, 0, 1);
        x.ticks(1);
        due("none that changes something", x.redo(0), NONE);
        due("all stay", x.editor(0, 6) + "" + x.editor(0, 7), "01");

        says(TERMS, "Carried along: the latest and what comes are TURNED over each other, the one before and what that gives,"
            + " and so on.");
        // abc, xabc, xab, and another's: xa
        x = told(FAST + "edit 0 +x;tick 1;edit 0 3 -1;tick 1;edit 1 2 -1;tick 1;");
        due("the latest", op(x, 0, 2), "2 +c");
        due("undone", x.undo(0), 3);
        due("the one before", op(x, 0, 2), "-1 2");
        x.undo(0);
        due("both undone", text(x, 0), "ac");
        due("the DONES", op(x, 0, 3), "+x 2");
        x.ticks(9);
        x.put(1, 1, 25);
        x.ticks(1);
        due("carried, too", op(x, 0, 3), "+x 3");
        x.redo(0);
        due("the one before", op(x, 0, 3), "3 -1");
        // abc, abcz, zz..: what comes is changed by the latest, and so comes to the one before
        x = told(FAST + "edit 0 3 +z;tick 1;edit 0 +yy;tick 1;edit 1 1 -1 1 +p 2 -1;tick 1;");
        due("the text: y of two, p within, z cut", textOfAll(x), "yapbc");
        due("the latest", op(x, 0, 2), "-1 4");
        x.undo(0);
        due("the one before does nothing", op(x, 0, 2), "4");
        due("and no more", x.undo(0), NONE);
    }

    static void run() {
        forms();
        invertAndCompose();
        turns();
        ties();
        editorsHave();
        edits();
        sending();
        receiving();
        ticks();
        comings();
        places();
        undos();
    }
}
