import java.util.ArrayList;
import java.util.Arrays;
import java.util.List;
import java.util.Random;

/**
 * Answers of FarEditors held against one another, without a model: what the document says of one thing in two
 * ways must come out alike in drawn runs.
 */
public final class LawsTest extends Asking {
    private static final int RUNS = Integer.getInteger("runs", 120);
    private static final long FIRST = Long.getLong("first", 1L);

    private final Random draw;
    private final long seed;
    private final FarEditors x = new FarEditors();
    private final int count;
    private final String start;

    private LawsTest(long seed) {
        this.seed = seed;
        draw = new Random(seed);
        count = 2 + draw.nextInt(3);
        start = word(draw.nextInt(4) == 0 ? 40 : 6);
        StringBuilder text = new StringBuilder("text " + start + " editors " + count + ";ties " + draw.nextInt(3) + ";");
        for (int e = 0; e < count; e++) {
            text.append("delay " + e + " " + draw.nextInt(4) + ";");
        }
        session(x, text.toString());
    }

    private String word(int most) {
        StringBuilder b = new StringBuilder();
        for (int n = 1 + draw.nextInt(most); n > 0; n--) {
            b.append((char) ('a' + draw.nextInt(26)));
        }
        return b.toString();
    }

    private void law(int promise, String what, String got, String want) {
        due(promise, what + " (run " + seed + ")", got, want);
    }

    private void law(int promise, String what, int got, int want) {
        law(promise, what, "" + got, "" + want);
    }

    // ---- what is done

    private String told(int letters) {
        StringBuilder b = new StringBuilder();
        for (int n = 1 + draw.nextInt(5); n > 0; n--) {
            int most = 1 + letters / 3;
            String[] steps = {"" + (1 + draw.nextInt(most)), "-" + (1 + draw.nextInt(most)), "+" + word(3)};
            b.append(steps[draw.nextInt(3)]).append(' ');
        }
        return b.toString();
    }

    private void act() {
        int e = draw.nextInt(count);
        int letters = x.editor(e, 0);
        int place = draw.nextInt(letters + 1);
        switch (draw.nextInt(16)) {
            case 0: case 1: case 2: edit(x, e, told(letters)); break;
            case 3: x.put(e, place, 1 + draw.nextInt(26)); break;
            case 4: x.cut(e, place, 1 + draw.nextInt(2)); break;
            case 5: x.type(e, draw.nextInt(27)); break;
            case 6: x.cursor(e, place); break;
            case 7: x.marks(e, place / 2, place, draw.nextInt(4)); break;
            case 8: x.clears(e, draw.nextInt(4)); break;
            case 9: x.undo(e); break;
            case 10: x.redo(e); break;
            case 11: x.line(e, draw.nextInt(3) > 0); break;
            case 12: x.delay(e, draw.nextInt(5)); break;
            case 13: x.chance(1 + draw.nextInt(4)); break;
            default: x.ticks(1 + draw.nextInt(2));
        }
    }

    // ---- what is asked

    private String was(int ops) {
        return letters(k -> x.was(ops, k));
    }

    /** The STEPS of an OP on a text; "none" if they are not of that text or not in their form. */
    private static String changed(String text, AskedStep step) {
        StringBuilder b = new StringBuilder();
        int at = 0;
        int last = NONE;
        for (int k = 0; step.at(k, 0) != NONE; k++) {
            int kind = step.at(k, 0);
            int n = step.at(k, 1);
            if (n < 1 || kind == last || kind == 1 && last == 2 || kind != 1 && at + n > text.length()) {
                return "none";
            }
            for (int i = 0; i < n && kind == 1; i++) {
                b.append((char) ('a' + step.at(k, 2 + i) - 1));
            }
            b.append(kind == 0 ? text.substring(at, at + n) : "");
            at += kind == 1 ? 0 : n;
            last = kind;
        }
        return at == text.length() ? b.toString() : "none";
    }

    private String changed(String text, int editor, int which) {
        return changed(text, (k, what) -> x.step(editor, which, k, what));
    }

    private static int countSteps(AskedStep step) {
        int n = 0;
        while (step.at(n, 0) != NONE) {
            n++;
        }
        return n;
    }

    /** All that ACTS change, as one text: what is SEEN and how many ACTS there are is not of it. */
    private String state() {
        StringBuilder b = new StringBuilder();
        for (int what = 0; what <= 10; what++) {
            b.append(what == 7 || what == 8 ? "" : x.has(what) + " ");
        }
        b.append(text(x, NONE));
        for (int n = 1; n <= x.has(1); n++) {
            b.append(" | ").append(x.row(n, NONE, 0)).append(": ").append(row(x, n));
        }
        for (int e = 0; e < count; e++) {
            b.append("\n").append(text(x, e));
            for (int what = 0; what <= 11; what++) {
                b.append(" ").append(x.editor(e, what));
            }
            for (int which = 0; which < 4; which++) {
                b.append(" | ").append(op(x, e, which));
            }
            for (int k = 0; k < x.editor(e, 5); k++) {
                b.append(" / ").append(x.mark(e, k, 0)).append(" ").append(x.mark(e, k, 1)).append(" ").append(x.mark(e, k, 2));
            }
        }
        return b.toString();
    }

    // ---- laws

    private void lawsOfRow() {
        int ops = x.has(1);
        law(12, "behind no OP it is as told", was(0), start);
        law(12, "behind all OPS it is the server's TEXT", was(ops), text(x, NONE));
        for (int n = 1; n <= ops; n++) {
            int op = n;
            law(10, "OP " + n + " makes of what was what was then",
                changed(was(n - 1), (k, what) -> x.row(op, k, what)), was(n));
            law(10, "STEPS of OP " + n, x.row(n, NONE, 1), countSteps((k, what) -> x.row(op, k, what)));
        }
        if (ops > 0) {
            int from = 1 + draw.nextInt(ops);
            int to = from + draw.nextInt(ops - from + 1);
            AskedStep all = (k, what) -> x.together(from, to, k, what);
            law(15, "OPS " + from + " to " + to + " together", changed(was(from - 1), all), was(to));
            law(15, "STEPS together", x.together(from, to, NONE, 1), countSteps(all));
            law(15, "one alone", op((k, what) -> x.together(from, from, k, what)), row(x, from));
            law(16, "without the last OP", letters(k -> x.without(ops, k)), was(ops - 1));
        }
    }

    private void lawsOfWriters() {
        int[] by = new int[count];
        int[] byOp = new int[x.has(1) + 1];
        int told = 0;
        for (int k = 0; k < x.has(2); k++) {
            int op = x.by(k, 0);
            byOp[op]++;
            law(13, "whose letter " + k + " is", x.by(k, 1), op == 0 ? NONE : x.row(op, NONE, 0));
            if (op == 0) {
                told++;
            } else {
                by[x.by(k, 1)]++;
            }
        }
        for (int e = 0; e < count; e++) {
            law(14, "letters by editor " + e, x.share(e, 0), by[e]);
        }
        due(13, "more letters are told than were told", told <= start.length(), true);
        for (int n = 1; n <= x.has(1); n++) {
            due(13, "more letters are by OP " + n + " than it PUT", byOp[n] <= row(x, n).replaceAll("[^a-z]", "").length(), true);
        }
    }

    private void lawsOfEditors() {
        int onTheirWay = 0;
        for (int e = 0; e < count; e++) {
            String text = was(x.editor(e, 1));
            text = x.editor(e, 3) == 1 ? changed(text, e, 0) : text;
            text = x.editor(e, 4) == 1 ? changed(text, e, 1) : text;
            law(9, "PENDING and the BUFFER behind the REVISION of editor " + e, text, text(x, e));
            law(7, "REVISION and what is on its way", x.editor(e, 1) + x.editor(e, 10), x.has(1));
            due(7, "a BUFFER without PENDING", x.editor(e, 4) <= x.editor(e, 3), true);
            onTheirWay += x.editor(e, 10) + (x.editor(e, 11) == NONE ? 0 : 1);
            for (int which = 2; which < 4; which++) {
                boolean isNone = x.editor(e, 4 + which) == 0;
                due(9, "an inverse of another text", isNone || !changed(text(x, e), e, which).equals("none"), true);
            }
            lawsOfPlaces(e);
            if (x.has(9) == 1) {
                law(6, "when all is QUIET, the TEXT of editor " + e, text(x, e), text(x, NONE));
                law(7, "when all is QUIET, PENDING of editor " + e, x.editor(e, 3), 0);
            }
        }
        law(6, "on their way", x.has(6), onTheirWay);
        law(6, "QUIET", x.has(9), onTheirWay == 0 ? 1 : 0);
    }

    private void lawsOfPlaces(int e) {
        int letters = x.editor(e, 0);
        due(7, "CURSOR", x.editor(e, 2) >= 0 && x.editor(e, 2) <= letters, true);
        for (int k = 0; k < x.editor(e, 5); k++) {
            boolean isPlace = x.mark(e, k, 0) >= 0 && x.mark(e, k, 0) <= x.mark(e, k, 1) && x.mark(e, k, 1) <= letters;
            due(11, "MARK", isPlace, true);
        }
    }

    private String sorted(String s) {
        char[] signs = s.toCharArray();
        Arrays.sort(signs);
        return new String(signs);
    }

    private void lawsOfOrders() {
        int orders = 1;
        int waiting = 0;
        for (int e = 0; e < count; e++) {
            if (x.editor(e, 11) != NONE) {
                waiting++;
                orders *= waiting;
            }
        }
        law(19, "ORDERS", x.orders(0), orders);
        List<String> ends = new ArrayList<>();
        for (int n = 0; n < orders; n++) {
            int order = n;
            ends.add(letters(k -> x.ends(order, k)));
            law(20, "letters of END " + n, x.ends(n, NONE), ends.get(n).length());
            law(20, "END " + n + " has the letters that each has", sorted(ends.get(n)), sorted(ends.get(0)));
        }
        law(19, "unlike ENDS", x.orders(1), (int) ends.stream().distinct().count());
        String seen = ends.get(draw.nextInt(orders));
        int place = draw.nextInt(seen.length() + 1);
        see(x, place, at(seen, place));
        List<String> fits = new ArrayList<>();
        for (int n = 0; n < orders; n++) {
            if (at(ends.get(n), place) == at(seen, place)) {
                law(22, "the next of FITS", x.fits(fits.size()), n);
                fits.add(ends.get(n));
            }
        }
        law(22, "FITS", x.fits(NONE), fits.size());
        law(22, "no more of them", x.fits(fits.size()), NONE);
        lawsOfTelling(fits);
    }

    private static int at(String text, int place) {
        return place < text.length() ? text.charAt(place) - 'a' + 1 : 0;
    }

    private void lawsOfTelling(List<String> fits) {
        int best = 0;
        int fewest = fits.size() + 1;
        for (int place = 0; place < 240; place++) {
            int most = 0;
            for (String one : fits) {
                int alike = 0;
                for (String other : fits) {
                    alike += at(one, place) == at(other, place) ? 1 : 0;
                }
                most = Math.max(most, alike);
            }
            if (most < fewest) {
                fewest = most;
                best = place;
            }
        }
        law(23, "the place", x.tells(0), best);
        law(23, "left at the most", x.tells(1), fewest);
    }

    private void lawsOfTime() {
        int n = 1 + draw.nextInt(12);
        String later = letters(k -> x.later(n, k));
        int quiet = x.quiet();
        int ops = x.has(1);
        String before = state();
        int took = x.ticks(n);
        law(18, "the TEXT behind " + n + " TICKS", text(x, NONE), later);
        law(35, "OPS taken", took, x.has(1) - ops);
        law(37, "back from TICKS", x.back() + state(), true + before);
        if (quiet > 0) {
            x.ticks(quiet);
            law(17, "QUIET behind " + quiet, x.has(9), 1);
            x.back();
            for (int i = 1; i < quiet; i++) {
                x.ticks(i);
                law(17, "not yet QUIET behind " + i, x.has(9), 0);
                x.back();
            }
        }
        law(37, "back from each", state(), before);
    }

    private void lawsOfInverses() {
        int e = draw.nextInt(count);
        String before = text(x, e);
        if (x.has(4) > 95 || x.has(5) > 120 || edit(x, e, told(before.length())) == NONE) {
            return;
        }
        String after = text(x, e);
        law(9, "the inverse", changed(after, e, 2), before);
        law(31, "what undo leaves", x.undo(e) + text(x, e), before.length() + before);
        law(9, "the inverse of the inverse", changed(before, e, 3), after);
        law(32, "what redo leaves", x.redo(e) + text(x, e), after.length() + after);
    }

    private void run() {
        int n = 10 + draw.nextInt(50);
        for (int i = 0; i < n; i++) {
            String before = state();
            int acts = x.has(8);
            act();
            if (x.has(8) > acts && draw.nextInt(3) == 0) {
                law(37, "back", x.back() + state(), true + before);
            }
            if (draw.nextInt(6) == 0) {
                String here = state();
                lawsOfRow();
                lawsOfWriters();
                lawsOfEditors();
                lawsOfOrders();
                law(6, "what is asked changes nothing", state(), here);
            }
            if (draw.nextInt(12) == 0) {
                lawsOfTime();
            }
            if (draw.nextInt(12) == 0) {
                lawsOfInverses();
            }
        }
        for (int e = 0; e < count; e++) {
            x.line(e, true);
        }
        x.ticks(99);
        law(6, "all are ON: QUIET behind 99 TICKS", x.has(9), 1);
        lawsOfEditors();
        lawsOfRow();
    }

    public static void main(String[] args) {
        for (long seed = FIRST; seed < FIRST + RUNS && wrong < 20; seed++) {
            new LawsTest(seed).run();
        }
        tell();
    }
}
