import java.lang.reflect.Method;
import java.util.ArrayList;
import java.util.Arrays;
import java.util.List;
import java.util.Random;

/** Runs of drawn calls on FarEditors and on the model: every answer, and all that can be asked, is alike. */
public final class ModelTest {
    private static int wrong = 0;
    private static final String SIGNS = " \n;+-019abtextedit09Az\u00ff";
    private static final int RUNS = Integer.getInteger("runs", 250);

    private final Random draw;
    private final FarEditors real = new FarEditors();
    private final Model model = new Model();
    private final List<String> calls = new ArrayList<>();
    private boolean failed = false;
    /** Crowded: all happens at the first few places. Busy: up to the limits, seldom taken back. */
    private final boolean isCrowded;
    private final boolean isBusy;

    private ModelTest(long seed) {
        draw = new Random(seed);
        isCrowded = draw.nextInt(3) == 0;
        isBusy = draw.nextInt(4) == 0;
    }

    private static Object call(Object on, String name, Object... args) {
        for (Method m : on.getClass().getDeclaredMethods()) {
            if (m.getName().equals(name) && java.lang.reflect.Modifier.isPublic(m.getModifiers())) {
                try {
                    m.setAccessible(true);
                    return m.invoke(on, args);
                } catch (java.lang.reflect.InvocationTargetException e) {
                    return e.getCause() + " " + Arrays.toString(e.getCause().getStackTrace());
                } catch (ReflectiveOperationException e) {
                    throw new IllegalStateException(e);
                }
            }
        }
        throw new IllegalStateException(name);
    }

    private Object same(String name, Object... args) {
        Object got = call(real, name, args);
        Object due = call(model, name, args);
        calls.add(name + Arrays.toString(args) + " = " + got);
        if (!got.equals(due) && !failed) {
            failed = true;
            wrong++;
            System.out.println(String.join("\n", calls));
            System.out.println("... answered " + got + ", due is " + due);
        }
        return got;
    }

    private void tell(byte[] bytes) {
        for (int i = 0; i < bytes.length; i += 20) {
            Object[] n = new Object[5];
            for (int j = 0; j < 5; j++) {
                int v = 0;
                for (int k = 0; k < 4; k++) {
                    int at = i + 4 * j + k;
                    v = v << 8 | (at < bytes.length ? bytes[at] & 255 : 32);
                }
                n[j] = v;
            }
            same("feed", n);
        }
        same("end", bytes.length);
    }

    private void tell(String text) { tell(text.getBytes(java.nio.charset.StandardCharsets.ISO_8859_1)); }

    private String word(int most) {
        StringBuilder b = new StringBuilder();
        int n = 1 + draw.nextInt(most);
        for (int i = 0; i < n; i++) b.append((char) ('a' + draw.nextInt(26)));
        return b.toString();
    }

    private String op(int letters) {
        StringBuilder b = new StringBuilder();
        int n = draw.nextInt(30) == 0 ? 39 + draw.nextInt(3) : 1 + draw.nextInt(draw.nextInt(12) == 0 ? 42 : 6);
        for (int i = 0; i < n; i++) {
            int kind = draw.nextInt(3);
            if (kind == 0) b.append("+ ".substring(0, 1 + draw.nextInt(2))).append(word(draw.nextInt(9) == 0 ? 21 : 3));
            if (kind == 1) b.append("-").append(1 + draw.nextInt(2 + letters / (n + 2)));
            if (kind == 2) b.append(1 + draw.nextInt(3 + letters / (n + 1)));
            if (draw.nextInt(200) != 0) b.append(draw.nextBoolean() ? " " : "\n");
        }
        if (n > 38 && draw.nextBoolean()) b.append(SIGNS.charAt(draw.nextInt(SIGNS.length())));
        return b.toString();
    }

    private String session() {
        int eds = 2 + draw.nextInt(3);
        String text = word(isCrowded ? 3 : draw.nextInt(3) == 0 ? 40 : 8);
        StringBuilder b = new StringBuilder("text " + text + " editors " + eds + ";");
        if (draw.nextBoolean()) b.append("ties " + draw.nextInt(3) + ";");
        int n = draw.nextInt(draw.nextInt(20) == 0 ? 64 : 8);
        for (int i = 0; i < n; i++) {
            int e = draw.nextInt(eds);
            switch (draw.nextInt(9)) {
                case 0: case 1: b.append(" delay " + e + " " + draw.nextInt(draw.nextInt(9) == 0 ? 12 : 4)); break;
                case 2: b.append("ties " + draw.nextInt(3)); break;
                case 3: case 4: b.append("edit " + e + " " + op(text.length())); break;
                case 5: b.append("cursor " + e + " " + draw.nextInt(text.length() + 2)); break;
                case 6:
                    b.append("mark " + e + " " + draw.nextInt(4) + "\n" + draw.nextInt(text.length() + 2) + " " + draw.nextInt(4));
                    break;
                case 7: b.append((draw.nextBoolean() ? "off " : "on ") + e); break;
                default: b.append("tick " + (1 + draw.nextInt(draw.nextInt(3) == 0 ? 99 : 4)));
            }
            b.append(draw.nextInt(30) == 0 ? " ; " : ";");
        }
        return b.toString();
    }

    private String spoilt(String text) {
        StringBuilder b = new StringBuilder(text);
        int n = 1 + draw.nextInt(2);
        for (int i = 0; i < n && b.length() > 0; i++) {
            int at = draw.nextInt(b.length());
            switch (draw.nextInt(5)) {
                case 0: b.deleteCharAt(at); break;
                case 1: b.insert(at, SIGNS.charAt(draw.nextInt(SIGNS.length()))); break;
                case 2: b.setCharAt(at, SIGNS.charAt(draw.nextInt(SIGNS.length()))); break;
                case 3: b.setLength(at); break;
                default: {
                    int to = Math.min(b.length(), at + draw.nextInt(8));
                    b.insert(draw.nextInt(b.length()), b.substring(at, to));
                }
            }
        }
        if (b.length() > 1600) b.setLength(1600);
        return b.toString();
    }

    private void newSession() {
        String text = session();
        if (text.length() > 1600) text = text.substring(0, 1600);
        tell(draw.nextInt(4) == 0 ? spoilt(text) : text);
        same("session");
        same("fault", 0);
        same("fault", 1);
    }

    private int any(int most) { return draw.nextInt(30) == 0 ? draw.nextInt() : draw.nextInt(most + 2) - 1; }

    private int editor() { return draw.nextInt(25) == 0 ? draw.nextInt(7) - 2 : draw.nextInt(Math.max(1, model.s.eds.size())); }

    private int place(int e) {
        if (draw.nextInt(20) == 0) return any(300);
        int n = model.is(e) ? model.s.eds.get(e).text.length() + 1 : 3;
        return draw.nextInt(isCrowded ? Math.min(n, 3) : n);
    }

    private void act() {
        int e = editor();
        switch (draw.nextInt(24)) {
            case 0: case 1: case 2: {
                String op = op(model.is(e) ? model.s.eds.get(e).text.length() : 3);
                tell(draw.nextInt(8) == 0 ? spoilt(op) : op);
                same("edit", e);
                same("fault", 0);
                same("fault", 1);
                break;
            }
            case 3: case 4: same("put", e, place(e), draw.nextInt(15) == 0 ? any(27) : 1 + draw.nextInt(26)); break;
            case 5: same("cut", e, place(e), draw.nextInt(9) == 0 ? any(200) : 1 + draw.nextInt(4)); break;
            case 6: case 7: same("type", e, draw.nextInt(3) == 0 ? 0 : any(27)); break;
            case 8: same("cursor", e, place(e)); break;
            case 9: {
                int p = place(e);
                same("marks", e, p, draw.nextInt(4) == 0 ? place(e) : p + draw.nextInt(3), any(4));
                break;
            }
            case 10: same("clears", e, any(2)); break;
            case 11: case 12: case 13: same("undo", e); break;
            case 14: case 15: same("redo", e); break;
            case 16: same("line", e, draw.nextInt(3) != 0); break;
            case 17: same("delay", e, draw.nextInt(5) == 0 ? any(12) : draw.nextInt(4)); break;
            case 18: case 19: case 20: same("ticks", draw.nextInt(8) == 0 ? any(101) : 1 + draw.nextInt(isCrowded ? 2 : 3)); break;
            case 21: same("chance", draw.nextInt(8) == 0 ? any(42) : 1 + draw.nextInt(isBusy ? 40 : 6)); break;
            case 22: {
                int n = isBusy ? draw.nextInt(2) : draw.nextInt(10) == 0 ? 25 : 1 + draw.nextInt(3);
                for (int i = 0; i < n; i++) same("back");
                break;
            }
            default: {
                byte[] rows = new byte[draw.nextInt(8) == 0 ? draw.nextInt(40) : 2 * (1 + draw.nextInt(2))];
                List<String> ends = model.allEnds();
                for (int i = 0; i + 1 < rows.length; i += 2) {
                    String end = ends.get(draw.nextInt(ends.size()));
                    rows[i] = (byte) draw.nextInt(draw.nextInt(9) == 0 ? 256 : end.length() + 2);
                    rows[i + 1] = (byte) (draw.nextInt(9) == 0 ? draw.nextInt(256) : Model.at(end, rows[i] & 255));
                }
                tell(rows);
                same("see");
            }
        }
    }

    private void askWidely() {
        for (int i = -1; i < 12; i++) same("has", i);
        for (int i = -1; i < 8; i++) same("status", i);
        for (int e = -2; e < 5; e++) {
            for (int i = -1; i < 13; i++) same("editor", e, i);
            int n = model.is(e) ? model.s.eds.get(e).text.length() : e == -1 ? model.has(2) : 2;
            for (int k = -2; k <= n; k++) same("letter", e, k);
            for (int which = -1; which < 5; which++) {
                for (int k = -1; k < 7; k++) for (int what = -1; what < 5; what++) same("step", e, which, k, what);
            }
            for (int k = -1; k < 5; k++) for (int what = -1; what < 4; what++) same("mark", e, k, what);
            for (int what = -1; what < 3; what++) same("share", e, what);
        }
        for (int k = -1; k <= model.has(2); k++) for (int what = -1; what < 3; what++) same("by", k, what);
    }

    private void askDeeply() {
        int ops = model.s.row.size();
        int len = model.has(2);
        for (int i = 0; i < 20; i++) {
            int op = draw.nextInt(ops + 3) - 1;
            same("row", op, any(6), any(5));
            same("was", op, any(len + 1));
            same("without", op, any(len + 1));
            same("together", op, draw.nextInt(ops + 3) - 1, any(7), any(5));
        }
        for (int op = 0; op <= ops + 1; op++) for (int what = -1; what < 3; what++) same("row", op, -1, what);
        same("quiet");
        for (int i = 0; i < 6; i++) same("later", draw.nextInt(9) == 0 ? any(101) : any(12), any(len + 3));
        for (int i = -1; i < 3; i++) same("orders", i);
        int orders = model.told() ? model.allEnds().size() : 1;
        for (int n = -1; n <= orders; n++) {
            same("ends", n, -1);
            for (int i = 0; i < 3; i++) same("ends", n, any(len + 3));
        }
        for (int k = -2; k < 5; k++) same("fits", k);
        for (int i = -1; i < 3; i++) same("tells", i);
    }

    private void run() {
        if (draw.nextInt(4) == 0) askWidely();
        for (int i = 0; i < 5 && !model.told(); i++) newSession();
        int n = 10 + draw.nextInt(isBusy ? 200 : 80);
        for (int i = 0; i < n && !failed; i++) {
            act();
            if (draw.nextInt(12) == 0) askWidely();
            if (draw.nextInt(12) == 0) askDeeply();
            if (draw.nextInt(isBusy ? 300 : 60) == 0) newSession();
            if (draw.nextInt(40) == 0) same("seed", any(1000));
        }
        if (!failed) {
            askWidely();
            askDeeply();
        }
    }

    public static void main(String[] args) {
        long first = Long.getLong("first", 1L);
        long calls = 0;
        for (long seed = first; seed < first + RUNS && wrong < 3; seed++) {
            ModelTest test = new ModelTest(seed);
            test.run();
            calls += test.calls.size();
        }
        System.out.println(calls + " calls, " + wrong + " wrong runs");
        if (wrong != 0) System.exit(1);
    }
}
