import java.nio.charset.StandardCharsets;

/** What the tests need to tell a FarEditors something, to ask it, and to hold its answers against what is due. */
class Asking {
    static final int NONE = FarEditors.NONE;
    static int wrong = 0;
    static int asked = 0;

    static void due(int promise, String what, int got, int want) {
        asked++;
        if (got != want) {
            wrong++;
            System.out.println("promise " + promise + ": " + what + " answered " + got + ", due is " + want);
        }
    }

    static void due(int promise, String what, boolean got, boolean want) {
        due(promise, what, got ? 1 : 0, want ? 1 : 0);
    }

    static void due(int promise, String what, String got, String want) {
        asked++;
        if (!got.equals(want)) {
            wrong++;
            System.out.println("promise " + promise + ": " + what + " is " + got + ", due is " + want);
        }
    }

    static void tell() {
        System.out.println(asked + " answers, " + wrong + " not as due");
        if (wrong != 0) {
            System.exit(1);
        }
    }

    // ---- ways to tell and to ask

    static void tape(FarEditors x, byte[] bytes) {
        x.end(0);
        for (int i = 0; i < bytes.length; i += 20) {
            int[] n = new int[5];
            for (int j = 0; j < 20; j++) {
                n[j / 4] = n[j / 4] << 8 | (i + j < bytes.length ? bytes[i + j] & 255 : 32);
            }
            x.feed(n[0], n[1], n[2], n[3], n[4]);
        }
        x.end(bytes.length);
    }

    static int session(FarEditors x, String text) {
        tape(x, text.getBytes(StandardCharsets.ISO_8859_1));
        return x.session();
    }

    static int edit(FarEditors x, int editor, String op) {
        tape(x, op.getBytes(StandardCharsets.ISO_8859_1));
        return x.edit(editor);
    }

    static int see(FarEditors x, int... rows) {
        byte[] bytes = new byte[rows.length];
        for (int i = 0; i < rows.length; i++) {
            bytes[i] = (byte) rows[i];
        }
        tape(x, bytes);
        return x.see();
    }

    static FarEditors told(String text) {
        FarEditors x = new FarEditors();
        if (session(x, text) == NONE) {
            due(4, "session(" + text + ")", x.fault(1), 0);
        }
        return x;
    }

    interface Asked {
        int at(int k);
    }

    static String letters(Asked asked) {
        StringBuilder b = new StringBuilder();
        for (int k = 0; k < 300 && asked.at(k) != NONE; k++) {
            b.append((char) ('a' + asked.at(k) - 1));
        }
        return b.toString();
    }

    static String text(FarEditors x, int editor) {
        return letters(k -> x.letter(editor, k));
    }

    interface AskedStep {
        int at(int k, int what);
    }

    /** An OP as it would be told. */
    static String op(AskedStep asked) {
        StringBuilder b = new StringBuilder();
        for (int k = 0; k < 100 && asked.at(k, 0) != NONE; k++) {
            b.append(k > 0 ? " " : "");
            int kind = asked.at(k, 0);
            if (kind == 1) {
                b.append('+');
                for (int i = 0; i < asked.at(k, 1); i++) {
                    b.append((char) ('a' + asked.at(k, 2 + i) - 1));
                }
            } else {
                b.append(kind == 2 ? "-" : "").append(asked.at(k, 1));
            }
        }
        return b.toString();
    }

    static String op(FarEditors x, int editor, int which) {
        return op((k, what) -> x.step(editor, which, k, what));
    }

    static String row(FarEditors x, int n) {
        return op((k, what) -> x.row(n, k, what));
    }

    static String fault(FarEditors x) {
        return x.fault(0) + " at " + x.fault(1);
    }

    static String times(String s, int n) {
        return s.repeat(n);
    }
}
