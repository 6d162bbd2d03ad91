/** Each sentence of the document's Terms, I. (a session's text and its faults), at its boundaries. */
final class SessionTerms extends Quoting {
    private static final String TERMS = Document.TERMS;
    /** 40 STEPS of two bytes each. */
    private static final String FORTY = times("1 ", 40);
    private static final String NO_FAULT = "0 at -1";

    // ---- statements

    private static void statements() {
        says(TERMS, "I. A SESSION is a text: { STATEMENT ; } (60 at most):");
        FarEditors x = new FarEditors();
        due("a STATEMENT", session(x, S), 1);
        due("60", session(x, S + times("on 0;", 59)), 60);
        due("61", session(x, S + times("on 0;", 60)), NONE);
        due("the fault of 61", fault(x), "5 at 314");
        due("none", session(x, ""), NONE);
        dueFault("", "1 at 0");
        dueFault("text abc editors 2", "1 at 18");
        dueFault(S + "on 0", "1 at 23");

        says(TERMS, "text WORD editors N (1 to 40 letters; 2 .. 4 EDITORS; the first STATEMENT, and no other);");
        dueFault("text ;", "1 at 5");
        dueFault("text editors 2;", "1 at 13");
        due("a letter", told("text a editors 2;").has(2), 1);
        due("40 letters", told("text " + times("z", 40) + " editors 2;").has(2), 40);
        dueFault("text " + times("z", 41) + " editors 2;", "1 at 45");
        for (int n = 2; n <= 4; n++) {
            due("editors " + n, told("text a editors " + n + ";").has(0), n);
        }
        dueFault("text a editors 0;", "2 at 15");
        dueFault("text a editors 1;", "2 at 15");
        dueFault("text a editors 5;", "2 at 15");
        dueFault("on 0;text a editors 2;", "1 at 0");
        dueFault(S + "text b editors 2;", "1 at 19");

        says(TERMS, "delay N N (of an EDITOR, TICKS 0 .. 9; 1 without),");
        x = told("text abc editors 3;delay 0 0;delay 2 9;");
        due("0", x.editor(0, 9), 0);
        due("without", x.editor(1, 9), 1);
        due("9", x.editor(2, 9), 9);
        dueFault(S + "delay 1 10;", "2 at 27");
        dueFault(S + "delay 2 1;", "2 at 25");
        dueFault(S + "delay 1;", "1 at 26");
        dueFault(S + "delay 1 1 1;", "1 at 29");

        says(TERMS, "ties N (0 .. 2; the last one counts, 0 without),");
        due("without", told(S).has(10), 0);
        for (int n = 0; n <= 2; n++) {
            due("ties " + n, told(S + "ties " + (2 - n) + ";ties " + n + ";").has(10), n);
        }
        dueFault(S + "ties 3;", "2 at 24");
        dueFault(S + "ties 99;", "2 at 24");
        dueFault(S + "ties;", "1 at 23");
    }

    private static void otherStatements() {
        says(TERMS, "edit N OP, cursor N N, mark N N N N, off N, on N, tick N (1 .. 99).");
        String[][] all = {
            {"edit;", "1 at 23"}, {"edit 1;", "1 at 25"}, {"edit 1 1;", NO_FAULT},
            {"cursor 1;", "1 at 27"}, {"cursor 1 0;", NO_FAULT}, {"cursor 1 99;", NO_FAULT}, {"cursor 1 0 0;", "1 at 30"},
            {"mark 1 0 0;", "1 at 29"}, {"mark 1 0 0 0;", NO_FAULT}, {"mark 1 99 99 3;", NO_FAULT},
            {"mark 1 0 0 0 0;", "1 at 32"},
            {"off;", "1 at 22"}, {"off 1;", NO_FAULT}, {"off 0 0;", "1 at 25"},
            {"on;", "1 at 21"}, {"on 1;", NO_FAULT}, {"on 0 0;", "1 at 24"},
            {"tick;", "1 at 23"}, {"tick 0;", "2 at 24"}, {"tick 1;", NO_FAULT}, {"tick 99;", NO_FAULT},
            {"tick 100;", "1 at 26"}, {"tick 1 1;", "1 at 26"},
        };
        for (String[] one : all) {
            dueFault(S + one[0], one[1]);
        }
        due("tick 1", told(S + "tick 1;").has(3), 1);
        due("tick 99", told(S + "tick 99;").has(3), 99);
        due("cursor 1 0", told(S + "cursor 1 3;cursor 1 0;").editor(1, 2), 0);
        due("cursor 1 3", told(S + "cursor 1 3;").editor(1, 2), 3);
        due("mark 1 0 3 3", told(S + "mark 1 0 3 3;").mark(1, 0, 1), 3);
        due("off", told(S + "off 1;").editor(1, 8), 0);
        due("on", told(S + "off 1;on 1;").editor(1, 8), 1);
    }

    private static void whatIsDone() {
        says(TERMS, "When the whole text is read, delays and ties are as told last,");
        FarEditors x = told(S);
        due("a fault at the very end", session(x, S + "edit 0 +x;cursor 1 2;tick 5;tick 0;"), NONE);
        due("and nothing was done", x.has(3) + x.has(4) + x.editor(1, 2), 0);
        due("a delay told behind the edit", told(S + "edit 0 +x;delay 0 7;delay 0 3;").editor(0, 11), 3);
        due("ties 2", textOfAll(told(S + "ties 2;edit 0 +x;edit 1 +y;tick 9;")), "xyabc");
        due("ties told behind all ticks", textOfAll(told(S + "ties 2;edit 0 +x;edit 1 +y;tick 9;ties 1;")), "yxabc");

        says(TERMS, "all else is done, one STATEMENT after the other (what can't be is not);");
        due("a place that comes later", told(S + "cursor 0 4;edit 0 3 +x;").editor(0, 2), 0);
        due("a place that has come", told(S + "edit 0 3 +x;cursor 0 4;").editor(0, 2), 4);
        due("a place that is behind all", told(S + "edit 0 3 +x;cursor 0 5;").editor(0, 2), 0);
        due("marks beyond, from beyond to", told(S + "mark 0 0 4 0;mark 0 4 4 0;mark 0 3 2 0;").editor(0, 5), 0);
        due("a fifth mark", told(S + times("mark 0 3 3 0;", 5)).editor(0, 5), 4);
        due("edits beyond, and of no change", told(S + "edit 0 4;edit 0 3;edit 0 2 -2;edit 0 3 -1;edit 0 4 +x;").has(4), 0);
        x = told(S + times("edit 0 +" + times("q", 20) + ";", 10) + "edit 1 +z;edit 1 -1;");
        due("200 letters, and none more", x.has(5), 200);
        due("a cut behind them is done", text(x, 1), "bc");
        x = told(S + times("tick 99;", 10) + "tick 10;");
        due("a tick beyond 999 is not", x.has(3), 990);
        x = told(S + times("tick 99;", 10) + "tick 10;tick 9;tick 1;");
        due("up to 999 it is", x.has(3), 999);

        says(TERMS, "no ACT of it can be taken back.");
        x = told(S + "edit 0 +x;cursor 0 1;mark 0 0 1 0;off 1;tick 1;");
        due("acts", x.has(8), 0);
        due("back", x.back(), false);
        due("all stays", text(x, 0) + x.editor(0, 2) + x.editor(0, 5) + x.editor(1, 8) + x.has(3), "xabc1101");
    }

    // ---- operations as they are told

    private static void steps() {
        says(TERMS, "OP: STEP { STEP } (40 at most).");
        dueFaultOfOp("", "1 at 0");
        dueFaultOfOp(" ", "1 at 1");
        due("a STEP", edit(told(S), 0, "+a"), 4);
        due("40", edit(told(S), 0, times("+a", 40)), 43);
        due("41", edit(told(S), 0, times("+a", 41)), NONE);
        dueFaultOfOp(times("+a", 41), "5 at 80");
        dueFault(S + "edit 0 ;", "1 at 26");
        due("40 in a STATEMENT", told(S + "edit 0 " + times("+a", 40) + ";").editor(0, 0), 43);
        dueFault(S + "edit 0 " + times("+a", 41) + ";", "5 at 106");

        says(TERMS, "STEP: N (1 .. 99: so many letters are KEPT);");
        dueFaultOfOp("0 +x", "2 at 0");
        dueFaultOfOp("00 +x", "2 at 0");
        FarEditors x = told(S);
        due("1", edit(x, 0, "1 +x"), 4);
        due("one letter is kept", x.letter(0, 1), 24);
        x = hundred();
        due("99", edit(x, 0, "99 +x"), 101);
        due("99 letters are kept", x.letter(0, 99), 24);
        dueFaultOfOp("100 +x", "1 at 2");

        says(TERMS, "+ WORD (1 to 20 letters are PUT);");
        dueFaultOfOp("+", "1 at 1");
        dueFaultOfOp("+ 1", "1 at 2");
        due("a letter", edit(told(S), 0, "+x"), 4);
        due("20", edit(told(S), 0, "+" + times("x", 20)), 23);
        due("21", edit(told(S), 0, "+" + times("x", 21)), NONE);
        dueFaultOfOp("+" + times("x", 21), "1 at 21");

        says(TERMS, "- N (1 .. 99 are CUT);");
        dueFaultOfOp("-", "1 at 1");
        dueFaultOfOp("-0", "2 at 1");
        due("1", edit(told(S), 0, "-1"), 2);
        due("99", edit(hundred(), 0, "-99"), 1);
        dueFaultOfOp("-100", "1 at 3");

        says(TERMS, "what is behind is KEPT.");
        String[][] all = {{"+x", "+x 3"}, {"2 +x", "2 +x 1"}, {"3 +x", "3 +x"}, {"-3", "-3"}, {"1 -1", "1 -1 1"}, {"2 -1", "2 -1"}};
        for (String[] one : all) {
            x = told(S);
            edit(x, 0, one[0]);
            due(one[0], op(x, 0, 0), one[1]);
        }
    }

    private static void wordsAndNumbers() {
        says(TERMS, "WORDS: letters a to z, as many as go on.");
        FarEditors x = told(S);
        edit(x, 0, "+az");
        due("a and z", text(x, 0), "azabc");
        due("one WORD", x.step(0, 0, 0, 1), 2);
        String[][] all = {{"+`", "1 at 1"}, {"+{", "1 at 1"}, {"+A", "1 at 1"}, {"+Z", "1 at 1"}, {"+a`", "1 at 2"},
            {"+a{", "1 at 2"}, {"+aA", "1 at 2"}, {"+\u00e1", "1 at 1"}, {"+a b", "1 at 3"}};
        for (String[] one : all) {
            dueFaultOfOp(one[0], one[1]);
        }
        dueFault("text ` editors 2;", "1 at 5");
        dueFault("text { editors 2;", "1 at 5");
        due("a and z", text(told("text az editors 2;"), 0), "az");

        says(TERMS, "NUMBERS: 1 or 2 digits.");
        for (int n = 1; n <= 40; n++) {
            x = told("text " + times("k", 40) + " editors 2;");
            edit(x, 0, n + " +x");
            due("the number " + n, x.step(0, 0, 0, 1), n);
        }
        x = told(S);
        edit(x, 0, "03 +x");
        due("the number 03", op(x, 0, 0), "3 +x");
        dueFaultOfOp("003 +x", "1 at 2");
        dueFaultOfOp("/", "1 at 0");
        dueFaultOfOp(":", "1 at 0");
        dueFaultOfOp("1/", "1 at 1");
        dueFaultOfOp("1:", "1 at 1");

        says(TERMS, "EDITORS are 0 and on.");
        x = told("text abc editors 4;");
        due("-1", x.put(-1, 0, 1), NONE);
        due("0", x.put(0, 0, 1), 4);
        due("3", x.put(3, 0, 1), 4);
        due("4", x.put(4, 0, 1), NONE);
        dueFault("text abc editors 4;on 3;", NO_FAULT);
        dueFault("text abc editors 4;on 4;", "2 at 22");
    }

    private static void blanks() {
        says(TERMS, "Blanks (10, 32) are where one likes (words and numbers side by side need one).");
        due("many", session(new FarEditors(), "\n text\n\n a \neditors 2 \n;\n on\n0 ;\n "), 2);
        due("none but those needed", session(new FarEditors(), "text a editors 2;on 0;edit 0+a1-1;"), NONE);
        due("none but those needed", session(new FarEditors(), "text a editors 2;on 0;edit 0+a-1;edit 0 1+b+c;"), 4);
        due("in an OP", edit(told(S), 0, " \n1\n+ x\n- 1 \n"), 3);
        for (char c = 0; c < 256; c++) {
            if ("\n 0123456789+-".indexOf(c) < 0) {
                dueFaultOfOp("1" + c + "+x", "1 at 1");
            }
        }
        dueFaultOfOp("1\n+x", NO_FAULT);
        dueFaultOfOp("1 +x", NO_FAULT);
        dueFault("texta editors 2;", "1 at 0");
        dueFault("text aeditors 2;", "1 at 14");
        dueFault("text a editors2;", "1 at 14");
        dueFault("text a2 editors 2;", "1 at 6");
        dueFault(S + "tick1;", "1 at 23");
        dueFault(S + "delay 01;", "1 at 27");
        dueFaultOfOp("+a5", "1 at 2");
        dueFaultOfOp("+a 2", NO_FAULT);
        due("2 and 1 side by side", edit(told(S), 0, "2 1 +x"), 4);
        due("21 is another number", edit(told(S), 0, "21 +x"), NONE);
    }

    // ---- faults

    private static void firstFaults() {
        says(TERMS, "FAULTS, the first along the text:");
        dueFault(S + "tick 0;tick x;", "2 at 24");
        dueFault(S + "tick x;tick 0;", "1 at 24");
        dueFault(S + "ties 9;" + times("on 0;", 60), "2 at 24");
        dueFault(S + "delay 2 10;", "2 at 25");
        dueFault(S + "edit 0 0 " + FORTY + "x", "2 at 26");
        dueFaultOfOp("0 ?", "2 at 0");
        dueFaultOfOp("? 0", "1 at 0");

        says(TERMS, "1 the first byte with which no such text goes on (keywords and numbers whole, at their first byte;");
        String[][] all = {
            {"abc", "1 at 0"}, {"tex", "1 at 0"}, {"texts a", "1 at 0"}, {"Text a", "1 at 0"}, {"12", "1 at 0"}, {";", "1 at 0"},
            {"text a editor 2;", "1 at 7"}, {"text a editorss 2;", "1 at 7"}, {"text 12", "1 at 5"}, {"text a 12", "1 at 7"},
            {S + "ontick 1;", "1 at 19"}, {S + "of 0;", "1 at 19"}, {S + "offf 0;", "1 at 19"}, {S + "editors 2;", "1 at 19"},
            {S + "12;", "1 at 19"}, {S + ";", "1 at 19"}, {S + "on 0 on 0;", "1 at 24"}, {S + "on 0 12;", "1 at 24"},
            {S + "edit 0 1 x;", "1 at 28"}, {S + "edit 0 ? 1;", "1 at 26"}, {S + "on x;", "1 at 22"},
        };
        for (String[] one : all) {
            dueFault(one[0], one[1]);
        }

        String[] statements = {"text a editors 2;", "delay 0 1;", "ties 0;", "edit 0 +x;", "cursor 0 1;", "mark 0 1 1 1;", "off 0;",
            "on 0;", "tick 1;"};
        for (String one : statements) {
            String ahead = one.startsWith("text") ? "" : S;
            dueFault(ahead + one, NO_FAULT);
            for (int i = 0; i < one.indexOf(' '); i++) {
                dueFault(ahead + one.substring(0, i) + "q" + one.substring(i + 1), "1 at " + ahead.length());
                dueFault(ahead + one.substring(0, i) + one.substring(i + 1), "1 at " + ahead.length());
                dueFault(ahead + one.substring(0, i) + "q" + one.substring(i), "1 at " + ahead.length());
            }
        }
        for (int i = 0; i < 7; i++) {
            dueFault("text a " + "editors".substring(0, i) + "q" + "editors".substring(i + 1) + " 2;", "1 at 7");
        }

        says(TERMS, "a letter of a WORD too many, a 3rd digit at itself;");
        dueFault("text " + times("z", 40) + "editors 9;", "1 at 45");
        dueFault("text " + times("z", 40) + "9 editors 2;", "1 at 45");
        dueFault("text " + times("z", 40) + "\nz editors 2;", "1 at 46");
        dueFault("text " + times("z", 43), "1 at 45");
        dueFaultOfOp("1 +" + times("x", 21), "1 at 23");
        dueFaultOfOp("1 +" + times("x", 25), "1 at 23");
        dueFault("text a editors 222", "1 at 17");
        dueFault(S + "tick 100;", "1 at 26");
        dueFault(S + "tick 000;", "1 at 26");
        dueFault(S + "on 001;", "1 at 24");
        dueFaultOfOp("1 001", "1 at 4");
        dueFaultOfOp("-001", "1 at 3");
    }

    private static void tooSoon() {
        says(TERMS, "at the text's length, if it ends too soon);");
        String whole = S + "edit 0 1 +x -1;";
        for (int n = 0; n <= whole.length(); n++) {
            // a keyword that is cut off is a whole word that is none, with its fault at its first byte
            int at = n > 0 && n < 4 ? 0 : n > 9 && n < 16 ? 9 : n > 19 && n < 23 ? 19 : n;
            dueFault(whole.substring(0, n), n == S.length() || n == whole.length() ? NO_FAULT : "1 at " + at);
        }
        dueFault("  ", "1 at 2");
        dueFault("text abc editors 2 \n", "1 at 20");
        dueFault(S + "mark 0 0 0", "1 at 29");
        dueFaultOfOp("1 -", "1 at 3");
        dueFaultOfOp("1 + \n", "1 at 5");
    }

    private static void numbersThatCantBe() {
        says(TERMS, "2 a number that can't be (EDITORS that there are; 0 of a STEP, a tick; ties, grows, delays), at it;");
        String[][] all = {{"delay ", " 0;"}, {"edit ", " 1;"}, {"cursor ", " 0;"}, {"mark ", " 0 0 0;"}, {"off ", ";"}, {"on ", ";"}};
        for (int count = 2; count <= 4; count++) {
            String s = "text abc editors " + count + ";";
            for (String[] one : all) {
                int at = s.length() + one[0].length();
                dueFault(s + one[0] + (count - 1) + one[1], NO_FAULT);
                dueFault(s + one[0] + count + one[1], "2 at " + at);
                dueFault(s + one[0] + "99" + one[1], "2 at " + at);
            }
        }
        dueFaultOfOp("1 0", "2 at 2");
        dueFaultOfOp("1 -00", "2 at 3");
        dueFault(S + "edit 0 1 0;", "2 at 28");
        dueFault(S + "tick 00;", "2 at 24");
        dueFault(S + "tick 01;", NO_FAULT);
        dueFault(S + "ties 2;", NO_FAULT);
        dueFault(S + "ties 3;", "2 at 24");
        dueFault(S + "mark 0 0 0 3;", NO_FAULT);
        dueFault(S + "mark 0 0 0 4;", "2 at 30");
        dueFault(S + "delay 0 9;", NO_FAULT);
        dueFault(S + "delay 0 10;", "2 at 27");
        dueFault("text abc editors 1", "2 at 17");
        dueFault("text abc editors 5", "2 at 17");
    }

    private static void oneTooMany() {
        says(TERMS, "5 a 41st STEP, a 61st STATEMENT (whatever stands there, if anything does), at its first byte.");
        String statements = S + times("on 0;", 59);
        for (char c = 0; c < 256; c++) {
            boolean isBlank = c == 10 || c == 32;
            dueFaultOfOp(FORTY + c, isBlank ? NO_FAULT : "5 at 80");
            dueFaultOfOp(FORTY + "\n " + c, isBlank ? NO_FAULT : "5 at 82");
            dueFault(S + "edit 0 " + FORTY + c, c == ';' ? NO_FAULT : isBlank ? "1 at 107" : "5 at 106");
            dueFault(statements + c, isBlank ? NO_FAULT : "5 at 314");
        }
        dueFaultOfOp(FORTY, NO_FAULT);
        dueFaultOfOp(times("+a", 40) + "1", "5 at 80");
        dueFaultOfOp(times("+a", 39) + "1", "1 at 78");
        dueFault(statements, NO_FAULT);
        dueFault(statements + "\n on 0;", "5 at 316");
        dueFault(S + times("on 0;", 58) + "?", "1 at 309");
    }

    static void run() {
        statements();
        otherStatements();
        whatIsDone();
        steps();
        wordsAndNumbers();
        blanks();
        firstFaults();
        tooSoon();
        numbersThatCantBe();
        oneTooMany();
    }
}
