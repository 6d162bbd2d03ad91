/** For tests that stand each under the document's own words: what is due is due by the words quoted last. */
class Quoting extends Asking {
    static final Document DOCUMENT = new Document();
    /** A session of one STATEMENT; the next one begins at byte 19. */
    static final String S = "text abc editors 2;";
    private static String under = "";

    static void says(String section, String words) {
        under = section + ", \"" + words + "\"";
        due("the document's words", DOCUMENT.quote(section, words), true);
    }

    static void says(int promise, String words) {
        says("Promise " + promise, words);
    }

    static void due(String what, int got, int want) {
        due(what, "" + got, "" + want);
    }

    static void due(String what, boolean got, boolean want) {
        due(what, "" + got, "" + want);
    }

    static void due(String what, String got, String want) {
        asked++;
        if (!got.equals(want)) {
            wrong++;
            System.out.println(under + ": " + what + ": " + got + ", due is " + want);
        }
    }

    /** Each sentence of these sections must have been quoted. */
    static void dueAllQuoted(String begin) {
        under = begin;
        due("what no test stands under", String.join(" | ", DOCUMENT.unquoted(begin)), "");
    }

    /** The fault of a session of a new object. */
    static String faultOf(String text) {
        FarEditors x = new FarEditors();
        boolean refused = session(x, text) == NONE;
        due("whether it is refused: " + text, refused, x.fault(0) != 0);
        return fault(x);
    }

    static void dueFault(String text, String want) {
        due("the fault of " + text, faultOf(text), want);
    }

    /** The fault of an OP told to editor 0 of "abc". */
    static void dueFaultOfOp(String op, String want) {
        FarEditors x = told(S);
        edit(x, 0, op);
        due("the fault of the OP " + op, fault(x), want);
    }

    /** The server's text and those of all editors, which must be one and the same. */
    static String textOfAll(FarEditors x) {
        String text = text(x, NONE);
        for (int e = 0; e < x.has(0); e++) {
            due("the text of editor " + e, text(x, e), text);
        }
        return text;
    }

    /** A TEXT of 100 letters (60 p, 40 k) that editor 0 has alone. */
    static FarEditors hundred() {
        return told("text " + times("k", 40) + " editors 2;" + times("edit 0 +" + times("p", 20) + ";", 3));
    }
}
