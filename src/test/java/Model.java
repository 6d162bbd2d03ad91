import java.util.ArrayDeque;
import java.util.ArrayList;
import java.util.Arrays;
import java.util.HashSet;
import java.util.List;

/**
 * The document once more, in another and slower way, to hold FarEditors against: an operation is a text with a
 * sign for each letter (K kept, X cut, a .. z put), messages are things of their own, all else is replayed.
 */
final class Model {
    static final int NONE = -1;

    static final class Fault extends RuntimeException {
        private static final long serialVersionUID = 1;
        final int kind;
        final int place;
        Fault(int kind, int place) { this.kind = kind; this.place = place; }
    }

    // ---- operations as texts

    static boolean isPut(char c) { return c >= 'a' && c <= 'z'; }

    static String normal(String op) {
        StringBuilder all = new StringBuilder();
        StringBuilder puts = new StringBuilder();
        StringBuilder cuts = new StringBuilder();
        for (char c : (op + "K").toCharArray()) {
            if (isPut(c)) puts.append(c);
            else if (c == 'X') cuts.append(c);
            else { all.append(puts).append(cuts).append(c); puts.setLength(0); cuts.setLength(0); }
        }
        all.setLength(all.length() - 1);
        return all.toString();
    }

    /** What is put ahead of each letter of the text, and behind the last. */
    static String[] gaps(String op) {
        int n = base(op);
        String[] g = new String[n + 1];
        Arrays.fill(g, "");
        int at = 0;
        for (char c : op.toCharArray()) {
            if (isPut(c)) g[at] += c; else at++;
        }
        return g;
    }

    static int base(String op) { return op.replaceAll("[a-z]", "").length(); }

    static String fates(String op) { return op.replaceAll("[a-z]", ""); }

    static String times(String s, int n) {
        StringBuilder b = new StringBuilder();
        for (int i = 0; i < n; i++) b.append(s);
        return b.toString();
    }

    static String apply(String op, String text) {
        if (base(op) != text.length()) throw new IllegalStateException("op " + op + " of text " + text);
        StringBuilder b = new StringBuilder();
        int at = 0;
        for (char c : op.toCharArray()) {
            if (isPut(c)) b.append(c);
            else { if (c == 'K') b.append(text.charAt(at)); at++; }
        }
        return b.toString();
    }

    static String invert(String op, String text) {
        StringBuilder b = new StringBuilder();
        int at = 0;
        for (char c : op.toCharArray()) {
            if (isPut(c)) b.append('X');
            else { b.append(c == 'K' ? 'K' : text.charAt(at)); at++; }
        }
        return normal(b.toString());
    }

    static String compose(String first, String second) {
        // letters of the text in between: a number of the text at first, or a letter that was put
        List<Object> now = new ArrayList<>();
        int at = 0;
        for (char c : first.toCharArray()) {
            if (isPut(c)) now.add(c); else { if (c == 'K') now.add(at); at++; }
        }
        int n = at;
        List<Object> end = new ArrayList<>();
        at = 0;
        for (char c : second.toCharArray()) {
            if (isPut(c)) end.add(c); else { if (c == 'K') end.add(now.get(at)); at++; }
        }
        StringBuilder b = new StringBuilder();
        int next = 0;
        for (Object o : end) {
            if (o instanceof Integer i) {
                b.append(times("X", i - next)).append('K');
                next = i + 1;
            } else b.append(o);
        }
        b.append(times("X", n - next));
        return normal(b.toString());
    }

    /** a over b. */
    static String turn(String a, String b, boolean aPutsAhead) {
        String[] ga = gaps(a);
        String[] gb = gaps(b);
        String fa = fates(a);
        String fb = fates(b);
        if (fa.length() != fb.length()) throw new IllegalStateException(a + " over " + b);
        StringBuilder out = new StringBuilder();
        for (int i = 0; i <= fa.length(); i++) {
            String kept = times("K", gb[i].length());
            out.append(aPutsAhead ? ga[i] + kept : kept + ga[i]);
            if (i < fa.length() && fb.charAt(i) == 'K') out.append(fa.charAt(i));
        }
        return normal(out.toString());
    }

    static int carry(String op, int p, boolean pushed) {
        String[] g = gaps(op);
        int to = p;
        for (int i = 0; i <= p; i++) {
            if (i < p || pushed) to += g[i].length();
            if (i < p && fates(op).charAt(i) == 'X') to--;
        }
        return to;
    }

    static boolean changes(String op) { return !op.equals(times("K", op.length())); }

    static int puts(String op) { return op.length() - base(op); }

    static List<String> steps(String op) {
        List<String> steps = new ArrayList<>();
        for (char c : op.toCharArray()) {
            String last = steps.isEmpty() ? "" : steps.get(steps.size() - 1);
            boolean goesOn = !last.isEmpty() && (last.charAt(0) == c || isPut(last.charAt(0)) && isPut(c));
            if (goesOn) steps.set(steps.size() - 1, last + c); else steps.add("" + c);
        }
        return steps;
    }

    static int askStep(String op, int k, int what) {
        List<String> steps = steps(op);
        if (k < 0 || k >= steps.size()) return NONE;
        String step = steps.get(k);
        char c = step.charAt(0);
        if (what == 0) return c == 'K' ? 0 : c == 'X' ? 2 : 1;
        if (what == 1) return step.length();
        if (what >= 2 && isPut(c) && what - 2 < step.length()) return step.charAt(what - 2) - 'a' + 1;
        return NONE;
    }

    static int askText(String text, int k) {
        if (k == NONE) return text.length();
        return k >= 0 && k < text.length() ? text.charAt(k) - 'a' + 1 : NONE;
    }

    // ---- the state

    static final class Message {
        final String op;
        final int editor;
        final int revision;
        int left;
        Message(String op, int editor, int revision, int left) {
            this.op = op; this.editor = editor; this.revision = revision; this.left = left;
        }
        Message copy() { return new Message(op, editor, revision, left); }
    }

    static final class Ed {
        String text = "";
        int revision = 0;
        String pending = null;
        String buffer = null;
        int cursor = 0;
        List<int[]> marks = new ArrayList<>();
        List<String> undos = new ArrayList<>();
        List<String> dones = new ArrayList<>();
        boolean on = true;
        int delay = 1;
        Message up = null;
        List<Message> down = new ArrayList<>();
        Ed copy() {
            Ed e = new Ed();
            e.text = text; e.revision = revision; e.pending = pending; e.buffer = buffer; e.cursor = cursor;
            for (int[] m : marks) e.marks.add(m.clone());
            e.undos.addAll(undos); e.dones.addAll(dones); e.on = on; e.delay = delay;
            e.up = up == null ? null : up.copy();
            for (Message m : down) e.down.add(m.copy());
            return e;
        }
    }

    static final class State {
        String start = "";
        List<Ed> eds = new ArrayList<>();
        List<String> row = new ArrayList<>();
        List<Integer> owners = new ArrayList<>();
        int ties = 0;
        int tick = 0;
        int edits = 0;
        int put = 0;
        State copy() {
            State s = new State();
            s.start = start;
            for (Ed e : eds) s.eds.add(e.copy());
            s.row.addAll(row); s.owners.addAll(owners);
            s.ties = ties; s.tick = tick; s.edits = edits; s.put = put;
            return s;
        }
        String textBehind(int ops) {
            String t = start;
            for (int i = 0; i < ops; i++) t = apply(row.get(i), t);
            return t;
        }
        String serverText() { return textBehind(row.size()); }
        boolean ahead(int a, int b) { return a != b && (ties == 0 && a < b || ties == 1 && a > b); }
        int onWay() {
            int n = 0;
            for (Ed e : eds) n += e.down.size() + (e.up == null ? 0 : 1);
            return n;
        }
        boolean canEdit(int e, String op) {
            return base(op) == eds.get(e).text.length() && changes(op) && edits < 100 && put + puts(op) <= 200;
        }
        void edit(int e, String op) {
            Ed ed = eds.get(e);
            edits++;
            put += puts(op);
            ed.text = apply(op, ed.text);
            carryPlaces(ed, op, true);
            if (ed.pending != null) ed.buffer = ed.buffer == null ? op : compose(ed.buffer, op);
            else { ed.pending = op; ed.up = new Message(op, e, ed.revision, ed.delay); }
        }
        void plainEdit(int e, String op) {
            Ed ed = eds.get(e);
            ed.undos.add(invert(op, ed.text));
            if (ed.undos.size() > 8) ed.undos.remove(0);
            ed.dones.clear();
            edit(e, op);
        }
        boolean inverse(int e, boolean undo) {
            Ed ed = eds.get(e);
            List<String> from = undo ? ed.undos : ed.dones;
            List<String> onto = undo ? ed.dones : ed.undos;
            int i = from.size() - 1;
            while (i >= 0 && !changes(from.get(i))) i--;
            if (i < 0 || !canEdit(e, from.get(i))) return false;
            String op = from.get(i);
            while (from.size() > i) from.remove(from.size() - 1);
            onto.add(invert(op, ed.text));
            if (onto.size() > 8) onto.remove(0);
            edit(e, op);
            return true;
        }
        void carryPlaces(Ed ed, String op, boolean own) {
            ed.cursor = carry(op, ed.cursor, own);
            for (int[] m : ed.marks) {
                m[0] = carry(op, m[0], m[2] == 0 || m[2] == 2);
                m[1] = carry(op, m[1], m[2] == 2 || m[2] == 3);
                if (m[1] < m[0]) m[1] = m[0];
            }
        }
        void take(int e) {
            Message m = eds.get(e).up;
            eds.get(e).up = null;
            String op = m.op;
            for (int i = m.revision; i < row.size(); i++) op = turn(op, row.get(i), ahead(e, owners.get(i)));
            row.add(op);
            owners.add(e);
            for (Ed to : eds) to.down.add(new Message(op, e, 0, to.delay));
        }
        void receive(int e) {
            Ed ed = eds.get(e);
            Message m = ed.down.remove(0);
            ed.revision++;
            if (m.editor == e) {
                ed.pending = ed.buffer;
                ed.buffer = null;
                if (ed.pending != null) ed.up = new Message(ed.pending, e, ed.revision, ed.delay);
                return;
            }
            boolean first = ahead(e, m.editor);
            String op = m.op;
            if (ed.pending != null) {
                String turned = turn(ed.pending, op, first);
                op = turn(op, ed.pending, !first);
                ed.pending = turned;
            }
            if (ed.buffer != null) {
                String turned = turn(ed.buffer, op, first);
                op = turn(op, ed.buffer, !first);
                ed.buffer = turned;
            }
            ed.text = apply(op, ed.text);
            carryPlaces(ed, op, false);
            carryInverses(ed.undos, op, first);
            carryInverses(ed.dones, op, first);
        }
        void carryInverses(List<String> inverses, String op, boolean first) {
            for (int i = inverses.size() - 1; i >= 0; i--) {
                String one = inverses.get(i);
                inverses.set(i, turn(one, op, first));
                op = turn(op, one, !first);
            }
        }
        void doTick() {
            for (Ed e : eds) if (e.on) {
                if (e.up != null && e.up.left > 0) e.up.left--;
                for (Message m : e.down) if (m.left > 0) m.left--;
            }
            for (int e = 0; e < eds.size(); e++) {
                if (eds.get(e).on && eds.get(e).up != null && eds.get(e).up.left == 0) take(e);
            }
            for (int e = 0; e < eds.size(); e++) {
                while (eds.get(e).on && !eds.get(e).down.isEmpty() && eds.get(e).down.get(0).left == 0) receive(e);
            }
            tick++;
        }
        /** For each letter of the text behind so many OPS the OP that put it; what an editor cut of others' into cuts. */
        List<Integer> writers(int[] cuts) {
            List<Integer> by = new ArrayList<>();
            for (int i = 0; i < start.length(); i++) by.add(0);
            for (int n = 0; n < row.size(); n++) {
                List<Integer> next = new ArrayList<>();
                int at = 0;
                for (char c : row.get(n).toCharArray()) {
                    if (isPut(c)) next.add(n + 1);
                    else {
                        int w = by.get(at++);
                        if (c == 'K') next.add(w);
                        else if (w == 0 || !owners.get(w - 1).equals(owners.get(n))) cuts[owners.get(n)]++;
                    }
                }
                by = next;
            }
            return by;
        }
    }

    // ---- the object

    List<Integer> tape = new ArrayList<>();
    State s = new State();
    ArrayDeque<State> past = new ArrayDeque<>();
    List<int[]> seenRows = new ArrayList<>();
    int[] refused = new int[7];
    int faultKind = 0;
    int faultPlace = NONE;
    long x = 1;

    int no(int kind) { refused[kind]++; return NONE; }
    boolean never(int kind) { refused[kind]++; return false; }
    boolean is(int e) { return e >= 0 && e < s.eds.size(); }
    boolean told() { return !s.eds.isEmpty(); }

    void act() {
        past.addLast(s.copy());
        if (past.size() > 20) past.removeFirst();
    }

    public int feed(int a, int b, int c, int d, int e) {
        if (tape.size() > 1580) return no(0);
        for (int v : new int[] {a, b, c, d, e}) {
            for (byte q : java.nio.ByteBuffer.allocate(4).putInt(v).array()) tape.add(q & 255);
        }
        return tape.size();
    }

    public boolean end(int n) {
        if (n < 0 || n > tape.size()) return never(0);
        tape = new ArrayList<>(tape.subList(0, n));
        return true;
    }

    // ---- reading

    String text;
    int at;

    String rest() { return text.substring(at); }
    void blanks() { while (rest().startsWith(" ") || rest().startsWith("\n")) at++; }
    Fault form() { return new Fault(1, at); }

    String word(int most) {
        blanks();
        String w = rest().replaceAll("(?s)[^a-z].*", "");
        if (w.isEmpty()) throw form();
        if (w.length() > most) throw new Fault(1, at + most);
        at += w.length();
        return w;
    }

    void gap() { if (rest().matches("(?s)[0-9].*")) throw form(); }

    String keyword(String... allowed) {
        blanks();
        String w = rest().replaceAll("(?s)[^a-z].*", "");
        if (!Arrays.asList(allowed).contains(w)) throw form();
        at += w.length();
        gap();
        return w;
    }

    int number(int least, int most) {
        blanks();
        String w = rest().replaceAll("(?s)[^0-9].*", "");
        if (w.isEmpty()) throw form();
        if (w.length() > 2) throw new Fault(1, at + 2);
        int n = Integer.parseInt(w);
        if (n < least || n > most) throw new Fault(2, at);
        at += w.length();
        return n;
    }

    /** An op as it is told, up to its end, not in its normal form, and without what is kept behind it. */
    String op(String end) {
        StringBuilder b = new StringBuilder();
        for (int n = 0; ; n++) {
            int behind = at;
            blanks();
            if (rest().isEmpty() && n > 0 || !end.isEmpty() && rest().startsWith(end) && n > 0) return b.toString();
            if (n == 40) throw new Fault(5, at);
            if (n > 0 && at == behind && Character.isLetter(text.charAt(at - 1))) gap();
            char c = rest().isEmpty() ? 0 : rest().charAt(0);
            if ("+-0123456789".indexOf(c) < 0) throw form();
            if (c == '+') { at++; b.append(word(20)); }
            else if (c == '-') { at++; b.append(times("X", number(1, 99))); }
            else b.append(times("K", number(1, 99)));
        }
    }

    static String whole(String op, int letters) {
        return base(op) > letters ? null : normal(op + times("K", letters - base(op)));
    }

    void takeTape() {
        StringBuilder b = new StringBuilder();
        for (int v : tape) b.append((char) v);
        text = b.toString();
        at = 0;
        tape.clear();
    }

    public int session() {
        takeTape();
        List<Object[]> all = new ArrayList<>();
        try {
            int eds = 0;
            do {
                blanks();
                if (all.size() == 60) throw new Fault(5, at);
                String k = all.isEmpty() ? keyword("text")
                    : keyword("delay", "ties", "edit", "cursor", "mark", "off", "on", "tick");
                if (k.equals("text")) {
                    String w = word(40);
                    gap();
                    keyword("editors");
                    eds = number(2, 4);
                    all.add(new Object[] {k, w, eds});
                } else if (k.equals("ties")) all.add(new Object[] {k, number(0, 2)});
                else if (k.equals("tick")) all.add(new Object[] {k, number(1, 99)});
                else {
                    int e = number(0, eds - 1);
                    switch (k) {
                        case "delay": all.add(new Object[] {k, e, number(0, 9)}); break;
                        case "edit": all.add(new Object[] {k, e, op(";")}); break;
                        case "cursor": all.add(new Object[] {k, e, number(0, 99)}); break;
                        case "mark":
                            all.add(new Object[] {k, e, number(0, 99), number(0, 99), number(0, 3)}); break;
                        default: all.add(new Object[] {k, e});
                    }
                }
                blanks();
                if (!rest().startsWith(";")) throw form();
                at++;
                blanks();
            } while (at < text.length());
        } catch (Fault f) {
            faultKind = f.kind;
            faultPlace = f.place;
            return no(1);
        }
        faultKind = 0;
        faultPlace = NONE;
        s = new State();
        past.clear();
        seenRows.clear();
        s.start = (String) all.get(0)[1];
        for (int i = 0; i < (int) all.get(0)[2]; i++) { s.eds.add(new Ed()); s.eds.get(i).text = s.start; }
        for (Object[] o : all) {
            if (o[0].equals("ties")) s.ties = (int) o[1];
            if (o[0].equals("delay")) s.eds.get((int) o[1]).delay = (int) o[2];
        }
        for (Object[] o : all) perform(o);
        return all.size();
    }

    void perform(Object[] o) {
        switch ((String) o[0]) {
            case "tick":
                if (s.tick + (int) o[1] <= 999) for (int i = 0; i < (int) o[1]; i++) s.doTick();
                break;
            case "edit": {
                String op = whole((String) o[2], s.eds.get((int) o[1]).text.length());
                if (op != null && s.canEdit((int) o[1], op)) s.plainEdit((int) o[1], op);
                break;
            }
            case "cursor":
                if ((int) o[2] <= s.eds.get((int) o[1]).text.length()) s.eds.get((int) o[1]).cursor = (int) o[2];
                break;
            case "mark": {
                Ed ed = s.eds.get((int) o[1]);
                if ((int) o[2] <= (int) o[3] && (int) o[3] <= ed.text.length() && ed.marks.size() < 4) {
                    ed.marks.add(new int[] {(int) o[2], (int) o[3], (int) o[4]});
                }
                break;
            }
            case "off": s.eds.get((int) o[1]).on = false; break;
            case "on": s.eds.get((int) o[1]).on = true; break;
            default: break;
        }
    }

    public int fault(int what) { return what == 0 ? faultKind : what == 1 ? faultPlace : NONE; }

    public int has(int what) {
        int[] all = {s.eds.size(), s.row.size(), s.serverText().length(), s.tick, s.edits, s.put, s.onWay(),
            seenRows.size(), past.size(), s.onWay() == 0 ? 1 : 0, s.ties};
        return what < 0 || what > 10 ? NONE : all[what];
    }

    public int editor(int e, int what) {
        if (!is(e) || what < 0 || what > 11) return NONE;
        Ed d = s.eds.get(e);
        return new int[] {d.text.length(), d.revision, d.cursor, d.pending == null ? 0 : 1, d.buffer == null ? 0 : 1,
            d.marks.size(), d.undos.size(), d.dones.size(), d.on ? 1 : 0, d.delay, d.down.size(),
            d.up == null ? NONE : d.up.left}[what];
    }

    public int letter(int e, int k) {
        if (k < 0 || e != NONE && !is(e)) return NONE;
        return askText(e == NONE ? s.serverText() : s.eds.get(e).text, k);
    }

    public int step(int e, int which, int k, int what) {
        if (!is(e) || which < 0 || which > 3) return NONE;
        Ed d = s.eds.get(e);
        String op = which == 0 ? d.pending : which == 1 ? d.buffer : last(which == 2 ? d.undos : d.dones);
        return op == null ? NONE : askStep(op, k, what);
    }

    static String last(List<String> l) { return l.isEmpty() ? null : l.get(l.size() - 1); }

    public int row(int op, int k, int what) {
        if (op < 1 || op > s.row.size()) return NONE;
        if (k != NONE) return askStep(s.row.get(op - 1), k, what);
        return what == 0 ? s.owners.get(op - 1) : what == 1 ? steps(s.row.get(op - 1)).size() : NONE;
    }

    public int mark(int e, int k, int what) {
        if (!is(e) || k < 0 || k >= s.eds.get(e).marks.size() || what < 0 || what > 2) return NONE;
        return s.eds.get(e).marks.get(k)[what];
    }

    public int was(int ops, int k) {
        return !told() || ops < 0 || ops > s.row.size() ? NONE : askText(s.textBehind(ops), k);
    }

    public int by(int k, int what) {
        List<Integer> w = s.writers(new int[4]);
        if (k < 0 || k >= w.size() || what < 0 || what > 1) return NONE;
        return what == 0 ? w.get(k) : w.get(k) == 0 ? NONE : s.owners.get(w.get(k) - 1);
    }

    public int share(int e, int what) {
        if (!is(e) || what < 0 || what > 1) return NONE;
        int[] cuts = new int[4];
        int n = 0;
        for (int w : s.writers(cuts)) if (w > 0 && s.owners.get(w - 1) == e) n++;
        return what == 0 ? n : cuts[e];
    }

    public int together(int from, int to, int k, int what) {
        if (from < 1 || from > to || to > s.row.size()) return NONE;
        String op = s.row.get(from - 1);
        for (int i = from; i < to; i++) op = compose(op, s.row.get(i));
        if (k == NONE) return what == 1 ? steps(op).size() : NONE;
        return askStep(op, k, what);
    }

    public int without(int op, int k) {
        if (op < 1 || op > s.row.size()) return NONE;
        String inv = invert(s.row.get(op - 1), s.textBehind(op - 1));
        for (int i = op; i < s.row.size(); i++) {
            inv = turn(inv, s.row.get(i), s.ahead(s.owners.get(op - 1), s.owners.get(i)));
        }
        return askText(apply(inv, s.serverText()), k);
    }

    public int quiet() {
        State t = s.copy();
        if (!told()) return NONE;
        for (int n = 0; n <= 99; n++) {
            if (t.onWay() == 0) return n;
            if (t.tick == 999) return NONE;
            t.doTick();
        }
        return NONE;
    }

    public int later(int n, int k) {
        if (!told() || n < 0 || n > 99 || s.tick + n > 999) return NONE;
        State t = s.copy();
        for (int i = 0; i < n; i++) t.doTick();
        return askText(t.serverText(), k);
    }

    void permute(List<Integer> head, List<Integer> rest, List<List<Integer>> all) {
        if (rest.isEmpty()) all.add(head);
        for (Integer r : rest) {
            List<Integer> h = new ArrayList<>(head);
            List<Integer> left = new ArrayList<>(rest);
            h.add(r);
            left.remove(r);
            permute(h, left, all);
        }
    }

    List<String> allEnds() {
        List<Integer> who = new ArrayList<>();
        for (int e = 0; e < s.eds.size(); e++) if (s.eds.get(e).up != null) who.add(e);
        List<List<Integer>> all = new ArrayList<>();
        permute(new ArrayList<>(), who, all);
        List<String> ends = new ArrayList<>();
        for (List<Integer> order : all) {
            State t = s.copy();
            for (int e : order) t.take(e);
            ends.add(t.serverText());
        }
        return ends;
    }

    public int orders(int what) {
        if (!told() || what < 0 || what > 1) return NONE;
        return what == 0 ? allEnds().size() : new HashSet<>(allEnds()).size();
    }

    public int ends(int n, int k) {
        if (!told() || n < 0 || n >= allEnds().size()) return NONE;
        return askText(allEnds().get(n), k);
    }

    public int see() {
        List<Integer> t = new ArrayList<>(tape);
        tape.clear();
        if (!told() || t.size() < 2 || t.size() > 32 || t.size() % 2 == 1) return no(1);
        List<int[]> rows = new ArrayList<>();
        for (int i = 0; i < t.size(); i += 2) {
            if (t.get(i) > 239 || t.get(i + 1) > 26) return no(1);
            rows.add(new int[] {t.get(i), t.get(i + 1)});
        }
        seenRows = rows;
        return rows.size();
    }

    static int at(String text, int place) { return place < text.length() ? text.charAt(place) - 'a' + 1 : 0; }

    List<Integer> allFits() {
        List<Integer> fits = new ArrayList<>();
        List<String> ends = allEnds();
        for (int i = 0; i < ends.size(); i++) {
            boolean fit = true;
            for (int[] r : seenRows) fit &= at(ends.get(i), r[0]) == r[1];
            if (fit) fits.add(i);
        }
        return fits;
    }

    public int fits(int k) {
        if (!told()) return NONE;
        List<Integer> f = allFits();
        return k == NONE ? f.size() : k >= 0 && k < f.size() ? f.get(k) : NONE;
    }

    public int tells(int what) {
        if (!told() || what < 0 || what > 1 || allFits().isEmpty()) return NONE;
        List<String> ends = allEnds();
        int best = NONE;
        int fewest = 999;
        for (int p = 0; p < 240; p++) {
            int[] n = new int[27];
            for (int f : allFits()) n[at(ends.get(f), p)]++;
            int most = Arrays.stream(n).max().getAsInt();
            if (most < fewest) { fewest = most; best = p; }
        }
        return what == 0 ? best : fewest;
    }

    int doEdit(int e, String op) {
        if (op == null || !s.canEdit(e, op)) return no(2);
        act();
        s.plainEdit(e, op);
        return s.eds.get(e).text.length();
    }

    public int edit(int e) {
        takeTape();
        if (!is(e)) return no(2);
        String op;
        try {
            op = op("");
        } catch (Fault f) {
            faultKind = f.kind;
            faultPlace = f.place;
            return no(2);
        }
        faultKind = 0;
        faultPlace = NONE;
        return doEdit(e, whole(op, s.eds.get(e).text.length()));
    }

    public int put(int e, int p, int letter) {
        if (!is(e) || p < 0 || p > s.eds.get(e).text.length() || letter < 1 || letter > 26) return no(2);
        return doEdit(e, whole(times("K", p) + (char) ('a' + letter - 1), s.eds.get(e).text.length()));
    }

    public int cut(int e, int p, int n) {
        if (!is(e) || p < 0 || n < 1 || (long) p + n > s.eds.get(e).text.length()) return no(2);
        return doEdit(e, whole(times("K", p) + times("X", n), s.eds.get(e).text.length()));
    }

    public int type(int e, int letter) {
        if (!is(e)) return no(2);
        int c = s.eds.get(e).cursor;
        int answer = letter == 0 ? cut(e, c - 1, 1) : put(e, c, letter);
        return answer == NONE ? NONE : s.eds.get(e).cursor;
    }

    public boolean cursor(int e, int p) {
        if (!is(e) || p < 0 || p > s.eds.get(e).text.length() || p == s.eds.get(e).cursor) return never(3);
        act();
        s.eds.get(e).cursor = p;
        return true;
    }

    public int marks(int e, int from, int to, int grows) {
        if (!is(e) || from < 0 || from > to || to > s.eds.get(e).text.length() || grows < 0 || grows > 3
            || s.eds.get(e).marks.size() == 4) return no(3);
        act();
        s.eds.get(e).marks.add(new int[] {from, to, grows});
        return s.eds.get(e).marks.size() - 1;
    }

    public boolean clears(int e, int k) {
        if (!is(e) || k < 0 || k >= s.eds.get(e).marks.size()) return never(3);
        act();
        s.eds.get(e).marks.remove(k);
        return true;
    }

    int again(int e, boolean undo) {
        if (!is(e)) return no(2);
        State before = s.copy();
        if (!s.inverse(e, undo)) return no(2);
        State after = s;
        s = before;
        act();
        s = after;
        return s.eds.get(e).text.length();
    }

    public int undo(int e) { return again(e, true); }
    public int redo(int e) { return again(e, false); }

    public boolean line(int e, boolean on) {
        if (!is(e) || s.eds.get(e).on == on) return never(3);
        act();
        s.eds.get(e).on = on;
        return true;
    }

    public boolean delay(int e, int ticks) {
        if (!is(e) || ticks < 0 || ticks > 9 || s.eds.get(e).delay == ticks) return never(3);
        act();
        s.eds.get(e).delay = ticks;
        return true;
    }

    public int ticks(int n) {
        if (!told() || n < 1 || n > 99 || s.tick + n > 999) return no(4);
        act();
        int before = s.row.size();
        for (int i = 0; i < n; i++) s.doTick();
        return s.row.size() - before;
    }

    int draw(int m) {
        x = java.math.BigInteger.valueOf(x).multiply(java.math.BigInteger.valueOf(1103515245))
            .add(java.math.BigInteger.valueOf(12345)).mod(java.math.BigInteger.ONE.shiftLeft(31)).longValue();
        return (int) (Math.floorDiv(x, 64L) % m);
    }

    public int chance(int n) {
        if (!told() || n < 1 || n > 40) return no(4);
        act();
        int before = s.edits;
        for (int i = 0; i < n; i++) {
            int kind = draw(4);
            if (kind == 3) { if (s.tick < 999) s.doTick(); continue; }
            int e = draw(s.eds.size());
            int len = s.eds.get(e).text.length();
            String op = null;
            if (kind == 2) {
                if (len > 0) op = whole(times("K", draw(len)) + "X", len);
            } else {
                int p = draw(len + 1);
                op = whole(times("K", p) + (char) ('a' + draw(26)), len);
            }
            if (op != null && s.canEdit(e, op)) s.plainEdit(e, op);
        }
        return s.edits - before;
    }

    public boolean back() {
        if (past.isEmpty()) return never(5);
        s = past.removeLast();
        return true;
    }

    public boolean seed(int seed) {
        if (seed < 0) return never(6);
        x = seed;
        return true;
    }

    public int status(int what) { return what < 0 || what > 6 ? NONE : refused[what]; }
}
