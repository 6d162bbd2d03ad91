import java.util.Arrays;

/** A server and up to four editors who change one text from afar; see ../shared/DOC.md for its promises. */
public final class FarEditors {
    public static final int NONE = -1;

    private static final int MOST_EDITORS = 4;
    private static final int MOST_LETTERS = 240;
    private static final int MOST_EDITS = 100;
    private static final int MOST_PUT = 200;
    private static final int MOST_MARKS = 4;
    private static final int MOST_INVERSES = 8;
    private static final int MOST_TICK = 999;
    private static final int MOST_TICKS = 99;
    private static final int MOST_CHANGES = 40;
    private static final int MOST_DELAY = 9;
    private static final int MOST_GROWS = 3;
    private static final int MOST_BACK = 20;
    private static final int MOST_ORDERS = 24;
    private static final int MOST_SEEN = 16;
    private static final int ALPHABET = 26;

    private static final int REFUSED_TAPE = 0;
    private static final int REFUSED_TOLD = 1;
    private static final int REFUSED_EDIT = 2;
    private static final int REFUSED_SETTING = 3;
    private static final int REFUSED_TIME = 4;
    private static final int REFUSED_BACK = 5;
    private static final int REFUSED_SEED = 6;

    private final Told told = new Told();
    private final Weaver weaver = new Weaver();
    private final Row taken = new Row();
    private final World world = new World(taken, weaver);
    private final World ahead = new World(taken, weaver);
    private final History history = new History();
    private final Comings comings = new Comings();
    private final Op op = new Op();
    private final Op other = new Op();
    private final Text past = new Text();
    private final int[] refused = new int[7];
    private int faultKind = 0;
    private int faultPlace = NONE;
    private int seedNow = 1;

    public FarEditors() {
    }

    public int feed(int a, int b, int c, int d, int e) {
        if (!told.hasRoom(20)) {
            return refuse(REFUSED_TAPE);
        }
        told.addNumber(a);
        told.addNumber(b);
        told.addNumber(c);
        told.addNumber(d);
        told.addNumber(e);
        return told.length;
    }

    public boolean end(int n) {
        if (n < 0 || n > told.length) {
            return refuseFlatly(REFUSED_TAPE);
        }
        told.length = n;
        return true;
    }

    public int session() {
        boolean read = told.readSession();
        noteFault();
        if (!read) {
            return refuse(REFUSED_TOLD);
        }
        beginAsTold();
        for (int i = 0; i < told.count; i++) {
            settle(i);
        }
        for (int i = 0; i < told.count; i++) {
            perform(i);
        }
        return told.count;
    }

    public int fault(int what) {
        if (what == 0) {
            return faultKind;
        }
        return what == 1 ? faultPlace : NONE;
    }

    public int has(int what) {
        switch (what) {
            case 0: return world.count;
            case 1: return world.ops;
            case 2: return world.server.size;
            case 3: return world.tick;
            case 4: return world.edits;
            case 5: return world.lettersPut;
            case 6: return world.onTheirWay();
            case 7: return comings.seen;
            case 8: return history.size;
            case 9: return world.onTheirWay() == 0 ? 1 : 0;
            case 10: return world.ties;
            default: return NONE;
        }
    }

    public int editor(int editor, int what) {
        if (!world.knows(editor)) {
            return NONE;
        }
        Editor who = world.editors[editor];
        switch (what) {
            case 0: return who.text.size;
            case 1: return who.revision;
            case 2: return who.place;
            case 3: return who.isPending ? 1 : 0;
            case 4: return who.isBuffered ? 1 : 0;
            case 5: return who.markCount;
            case 6: return who.undos.size;
            case 7: return who.dones.size;
            case 8: return who.isOn ? 1 : 0;
            case 9: return who.delay;
            case 10: return world.ops - who.revision;
            case 11: return who.ticksLeft;
            default: return NONE;
        }
    }

    public int letter(int editor, int k) {
        if (k < 0) {
            return NONE;
        }
        if (editor == NONE) {
            return world.server.ask(k);
        }
        return world.knows(editor) ? world.editors[editor].text.ask(k) : NONE;
    }

    public int step(int editor, int which, int k, int what) {
        if (!world.knows(editor)) {
            return NONE;
        }
        Editor who = world.editors[editor];
        switch (which) {
            case 0: return who.isPending ? who.pending.ask(k, what) : NONE;
            case 1: return who.isBuffered ? who.buffer.ask(k, what) : NONE;
            case 2: return who.undos.askLatest(k, what);
            case 3: return who.dones.askLatest(k, what);
            default: return NONE;
        }
    }

    public int row(int op, int k, int what) {
        if (!isTaken(op)) {
            return NONE;
        }
        Op asked = taken.ops[op - 1];
        if (k != NONE) {
            return asked.ask(k, what);
        }
        if (what == 0) {
            return taken.owners[op - 1];
        }
        return what == 1 ? asked.countSteps() : NONE;
    }

    public int mark(int editor, int k, int what) {
        if (!world.knows(editor) || what < 0 || what > 2) {
            return NONE;
        }
        Editor who = world.editors[editor];
        return who.hasMark(k) ? who.marks[3 * k + what] : NONE;
    }

    public int was(int ops, int k) {
        if (world.count == 0 || ops < 0 || ops > world.ops) {
            return NONE;
        }
        replay(ops);
        return past.ask(k);
    }

    public int by(int k, int what) {
        if (!world.server.hasPlace(k) || what < 0 || what > 1) {
            return NONE;
        }
        int op = world.server.writerOf(k);
        return what == 0 ? op : world.ownerOf(op);
    }

    public int share(int editor, int what) {
        if (!world.knows(editor)) {
            return NONE;
        }
        if (what == 0) {
            return world.countLettersBy(editor);
        }
        return what == 1 ? world.foreignCuts[editor] : NONE;
    }

    public int together(int from, int to, int k, int what) {
        if (!isTaken(from) || !isTaken(to) || from > to) {
            return NONE;
        }
        op.copy(taken.ops[from - 1]);
        for (int i = from; i < to; i++) {
            weaver.compose(op, taken.ops[i]);
        }
        if (k != NONE) {
            return op.ask(k, what);
        }
        return what == 1 ? op.countSteps() : NONE;
    }

    public int without(int op, int k) {
        if (!isTaken(op)) {
            return NONE;
        }
        replay(op - 1);
        Op inverse = this.op;
        weaver.invert(taken.ops[op - 1], past, inverse);
        int owner = taken.owners[op - 1];
        for (int i = op; i < world.ops; i++) {
            other.copy(taken.ops[i]);
            weaver.turn(inverse, other, world.isAhead(owner, taken.owners[i]));
        }
        past.copy(world.server);
        weaver.change(past, inverse, 0);
        return past.ask(k);
    }

    public int quiet() {
        if (world.count == 0) {
            return NONE;
        }
        ahead.copy(world, false);
        for (int n = 0; n <= MOST_TICKS && ahead.tick <= MOST_TICK; n++) {
            if (ahead.onTheirWay() == 0) {
                return n;
            }
            ahead.runTick();
        }
        return NONE;
    }

    public int later(int n, int k) {
        if (world.count == 0 || n < 0 || n > MOST_TICKS || world.tick + n > MOST_TICK) {
            return NONE;
        }
        ahead.copy(world, false);
        for (int i = 0; i < n; i++) {
            ahead.runTick();
        }
        return ahead.server.ask(k);
    }

    public int orders(int what) {
        if (world.count == 0 || what < 0 || what > 1) {
            return NONE;
        }
        reckonEnds();
        return what == 0 ? comings.count : comings.countUnlike();
    }

    public int ends(int n, int k) {
        if (world.count == 0) {
            return NONE;
        }
        reckonEnds();
        return n >= 0 && n < comings.count ? comings.ends[n].ask(k) : NONE;
    }

    public int see() {
        int length = told.length;
        told.length = 0;
        if (world.count == 0 || !comings.canSee(told.bytes, length)) {
            return refuse(REFUSED_TOLD);
        }
        comings.setSeen(told.bytes, length);
        return comings.seen;
    }

    public int fits(int k) {
        if (world.count == 0 || k < NONE) {
            return NONE;
        }
        reckonEnds();
        return k == NONE ? comings.countFits() : comings.findFit(k);
    }

    public int tells(int what) {
        if (world.count == 0 || what < 0 || what > 1) {
            return NONE;
        }
        reckonEnds();
        if (comings.countFits() == 0) {
            return NONE;
        }
        int place = comings.findTelling();
        return what == 0 ? place : comings.countMostLeft(place);
    }

    public int edit(int editor) {
        if (!world.knows(editor)) {
            told.length = 0;
            return refuse(REFUSED_EDIT);
        }
        boolean read = told.readOp();
        noteFault();
        Editor who = world.editors[editor];
        if (!read || !op.build(told.parts, 0, told.used, who.text.size)) {
            return refuse(REFUSED_EDIT);
        }
        return editWithOp(who);
    }

    public int put(int editor, int at, int letter) {
        if (!world.canPut(editor, at, letter)) {
            return refuse(REFUSED_EDIT);
        }
        Editor who = world.editors[editor];
        op.buildPut(at, letter, who.text.size);
        return editWithOp(who);
    }

    public int cut(int editor, int at, int n) {
        if (!world.canCut(editor, at, n)) {
            return refuse(REFUSED_EDIT);
        }
        Editor who = world.editors[editor];
        op.buildCut(at, n, who.text.size);
        return editWithOp(who);
    }

    public int type(int editor, int letter) {
        if (!world.knows(editor)) {
            return refuse(REFUSED_EDIT);
        }
        Editor who = world.editors[editor];
        boolean can = letter == 0 ? world.canCut(editor, who.place - 1, 1) : world.canPut(editor, who.place, letter);
        if (!can) {
            return refuse(REFUSED_EDIT);
        }
        if (letter == 0) {
            op.buildCut(who.place - 1, 1, who.text.size);
        } else {
            op.buildPut(who.place, letter, who.text.size);
        }
        return editWithOp(who) == NONE ? NONE : who.place;
    }

    public boolean cursor(int editor, int at) {
        if (!world.canPlace(editor, at) || world.editors[editor].place == at) {
            return refuseFlatly(REFUSED_SETTING);
        }
        history.keep(world);
        world.editors[editor].place = at;
        return true;
    }

    public int marks(int editor, int from, int to, int grows) {
        if (!world.canMark(editor, from, to, grows)) {
            return refuse(REFUSED_SETTING);
        }
        history.keep(world);
        return world.editors[editor].addMark(from, to, grows);
    }

    public boolean clears(int editor, int k) {
        if (!world.knows(editor) || !world.editors[editor].hasMark(k)) {
            return refuseFlatly(REFUSED_SETTING);
        }
        history.keep(world);
        world.editors[editor].dropMark(k);
        return true;
    }

    public int undo(int editor) {
        if (!world.knows(editor)) {
            return refuse(REFUSED_EDIT);
        }
        Editor who = world.editors[editor];
        return changeByInverse(who, who.undos, who.dones);
    }

    public int redo(int editor) {
        if (!world.knows(editor)) {
            return refuse(REFUSED_EDIT);
        }
        Editor who = world.editors[editor];
        return changeByInverse(who, who.dones, who.undos);
    }

    public boolean line(int editor, boolean on) {
        if (!world.knows(editor) || world.editors[editor].isOn == on) {
            return refuseFlatly(REFUSED_SETTING);
        }
        history.keep(world);
        world.editors[editor].isOn = on;
        return true;
    }

    public boolean delay(int editor, int ticks) {
        if (!world.knows(editor) || ticks < 0 || ticks > MOST_DELAY || world.editors[editor].delay == ticks) {
            return refuseFlatly(REFUSED_SETTING);
        }
        history.keep(world);
        world.editors[editor].delay = ticks;
        return true;
    }

    public int ticks(int n) {
        if (!world.canTick(n)) {
            return refuse(REFUSED_TIME);
        }
        history.keep(world);
        int before = world.ops;
        for (int i = 0; i < n; i++) {
            world.runTick();
        }
        return world.ops - before;
    }

    public int chance(int n) {
        if (world.count == 0 || n < 1 || n > MOST_CHANGES) {
            return refuse(REFUSED_TIME);
        }
        history.keep(world);
        int before = world.edits;
        for (int i = 0; i < n; i++) {
            changeBySeed();
        }
        return world.edits - before;
    }

    public boolean back() {
        return history.restore(world) || refuseFlatly(REFUSED_BACK);
    }

    public boolean seed(int seed) {
        if (seed < 0) {
            return refuseFlatly(REFUSED_SEED);
        }
        seedNow = seed;
        return true;
    }

    public int status(int what) {
        return what >= 0 && what < refused.length ? refused[what] : NONE;
    }

    private int refuse(int kind) {
        if (kind >= 0 && kind < refused.length) {
            refused[kind]++;
        }
        return NONE;
    }

    private boolean refuseFlatly(int kind) {
        refuse(kind);
        return false;
    }

    private void noteFault() {
        faultKind = told.fault;
        faultPlace = told.fault == 0 ? NONE : told.faultPlace;
    }

    private boolean isTaken(int op) {
        return op >= 1 && op <= world.ops;
    }

    private void reckonEnds() {
        if (comings.knownAt != history.changes) {
            comings.reckon(world, ahead);
            comings.knownAt = history.changes;
        }
    }

    private void replay(int ops) {
        past.copy(taken.start);
        for (int i = 0; i < ops; i++) {
            weaver.change(past, taken.ops[i], 0);
        }
    }

    private void beginAsTold() {
        taken.start.copyLetters(told.parts, told.wordLength);
        world.begin(told.editors);
        history.begin();
        comings.seen = 0;
    }

    private void settle(int i) {
        int first = told.numberOf(i, 0);
        if (told.kinds[i] == Told.TIES) {
            world.ties = first;
        } else if (told.kinds[i] == Told.DELAY && world.knows(first)) {
            world.editors[first].delay = told.numberOf(i, 1);
        }
    }

    private void perform(int i) {
        int kind = told.kinds[i];
        int first = told.numberOf(i, 0);
        if (kind == Told.TICK) {
            for (int n = world.canTick(first) ? first : 0; n > 0; n--) {
                world.runTick();
            }
        } else if (kind != Told.TEXT && kind != Told.TIES && world.knows(first)) {
            performFor(first, i);
        }
    }

    private void performFor(int editor, int i) {
        Editor who = world.editors[editor];
        int second = told.numberOf(i, 1);
        int third = told.numberOf(i, 2);
        int fourth = told.numberOf(i, 3);
        switch (told.kinds[i]) {
            case Told.EDIT:
                if (op.build(told.parts, second, third, who.text.size) && world.canEdit(op)) {
                    world.editPlainly(who, op);
                }
                break;
            case Told.CURSOR:
                if (world.canPlace(editor, second)) {
                    who.place = second;
                }
                break;
            case Told.MARK:
                if (world.canMark(editor, second, third, fourth)) {
                    who.addMark(second, third, fourth);
                }
                break;
            case Told.OFF:
            case Told.ON:
                who.isOn = told.kinds[i] == Told.ON;
                break;
            default:
                break;
        }
    }

    private int editWithOp(Editor who) {
        if (!world.canEdit(op)) {
            return refuse(REFUSED_EDIT);
        }
        history.keep(world);
        world.editPlainly(who, op);
        return who.text.size;
    }

    private int changeByInverse(Editor who, Inverses from, Inverses onto) {
        int which = from.findLatestThatChanges();
        if (which == NONE || !world.canEdit(from.ops[which])) {
            return refuse(REFUSED_EDIT);
        }
        history.keep(world);
        world.editByInverse(who, from, onto, which);
        return who.text.size;
    }

    private int draw(int m) {
        long x = (1103515245L * seedNow + 12345L) & 0x7fffffffL;
        seedNow = (int) x;
        return m > 0 ? (int) ((x / 64) % m) : 0;
    }

    private void changeBySeed() {
        int kind = draw(4);
        if (kind == 3) {
            if (world.canTick(1)) {
                world.runTick();
            }
            return;
        }
        int editor = draw(world.count);
        if (!world.knows(editor)) {
            return;
        }
        Editor who = world.editors[editor];
        int size = who.text.size;
        if (kind < 2) {
            int at = draw(size + 1);
            op.buildPut(at, draw(ALPHABET) + 1, size);
        } else if (size > 0) {
            op.buildCut(draw(size), 1, size);
        } else {
            return;
        }
        if (world.canEdit(op)) {
            world.editPlainly(who, op);
        }
    }

    /**
     * An operation as it is told and asked, part by part: a letter (1 .. 26) is PUT, above KEPT so many
     * letters are KEPT, below 0 so many are CUT. PUTS beside one another are one STEP.
     */
    static final class Op {
        static final int KEPT = 31;

        int[] parts = new int[8];
        int size = 0;

        void begin(int room) {
            if (room > parts.length) {
                parts = new int[Math.max(room, 2 * parts.length)];
            }
            size = 0;
        }

        void addKeep(int n) {
            if (n <= 0) {
                return;
            }
            if (size > 0 && parts[size - 1] > KEPT) {
                parts[size - 1] += n;
            } else if (size < parts.length) {
                parts[size++] = KEPT + n;
            }
        }

        void addCut(int n) {
            if (n <= 0) {
                return;
            }
            if (size > 0 && parts[size - 1] < 0) {
                parts[size - 1] -= n;
            } else if (size < parts.length) {
                parts[size++] = -n;
            }
        }

        void addPut(int letter) {
            if (size >= parts.length) {
                return;
            }
            parts[size] = letter;
            if (size > 0 && parts[size - 1] < 0) {
                // a PUT stands ahead of the CUT beside it
                parts[size] = parts[size - 1];
                parts[size - 1] = letter;
            }
            size++;
        }

        void copy(Op from) {
            if (from.size > parts.length) {
                parts = new int[from.parts.length];
            }
            System.arraycopy(from.parts, 0, parts, 0, from.size);
            size = from.size;
        }

        void swap(Op with) {
            int[] p = parts;
            int n = size;
            parts = with.parts;
            size = with.size;
            with.parts = p;
            with.size = n;
        }

        /** Of told parts from one on up to another; false if they go beyond a text of so many letters. */
        boolean build(int[] told, int from, int to, int letters) {
            begin(to - from + 1);
            int left = letters;
            for (int i = from; i >= 0 && i < to && i < told.length; i++) {
                int part = told[i];
                if (isPut(part)) {
                    addPut(part);
                } else if (part < 0) {
                    addCut(-part);
                    left += part;
                } else {
                    addKeep(part - KEPT);
                    left -= part - KEPT;
                }
            }
            addKeep(left);
            return left >= 0;
        }

        void buildPut(int at, int letter, int letters) {
            begin(3);
            addKeep(at);
            addPut(letter);
            addKeep(letters - at);
        }

        void buildCut(int at, int n, int letters) {
            begin(3);
            addKeep(at);
            addCut(n);
            addKeep(letters - at - n);
        }

        static boolean isPut(int part) {
            return part > 0 && part <= KEPT;
        }

        boolean changesSomething() {
            for (int i = 0; i < size; i++) {
                if (parts[i] <= KEPT) {
                    return true;
                }
            }
            return false;
        }

        int countPut() {
            int n = 0;
            for (int i = 0; i < size; i++) {
                n += isPut(parts[i]) ? 1 : 0;
            }
            return n;
        }

        private boolean beginsStep(int i) {
            return i == 0 || !isPut(parts[i]) || !isPut(parts[i - 1]);
        }

        int countSteps() {
            int n = 0;
            for (int i = 0; i < size; i++) {
                n += beginsStep(i) ? 1 : 0;
            }
            return n;
        }

        private int findStep(int k) {
            int before = 0;
            for (int i = 0; i < size; i++) {
                if (beginsStep(i)) {
                    if (before == k) {
                        return i;
                    }
                    before++;
                }
            }
            return NONE;
        }

        /** Where the STEP ends that begins at a part. */
        private int endOfStep(int from) {
            int i = from + 1;
            while (i < size && !beginsStep(i)) {
                i++;
            }
            return i;
        }

        int ask(int k, int what) {
            int from = findStep(k);
            if (from == NONE || what < 0) {
                return NONE;
            }
            int part = parts[from];
            if (isPut(part)) {
                return askPut(from, endOfStep(from), what);
            }
            if (what == 0) {
                return part < 0 ? 2 : 0;
            }
            return what > 1 ? NONE : part < 0 ? -part : part - KEPT;
        }

        private int askPut(int from, int to, int what) {
            if (what == 0) {
                return 1;
            }
            if (what == 1) {
                return to - from;
            }
            return what - 2 < to - from ? parts[from + what - 2] : NONE;
        }

        /** Where a place is behind the operation; what is PUT at the place itself pushes it or not. */
        int carry(int place, boolean isPushed) {
            int at = 0;
            int moved = place;
            for (int i = 0; i < size && at <= place; i++) {
                int part = parts[i];
                if (isPut(part)) {
                    moved += at < place || isPushed ? 1 : 0;
                } else if (part < 0) {
                    moved -= Math.min(-part, place - at);
                    at -= part;
                } else {
                    at += part - KEPT;
                }
            }
            return moved;
        }
    }

    /** Goes along the parts of an operation, a part or some letters of it at a time. */
    static final class Reader {
        private Op op = new Op();
        private int at = 0;
        int part = 0;
        int left = 0;

        void open(Op read) {
            op = read;
            at = NONE;
            left = 0;
            pass(0);
        }

        boolean isAtPut() {
            return part > 0 && part <= Op.KEPT;
        }

        boolean isAtCut() {
            return part < 0;
        }

        /** Behind the last part there is part 0, and nothing is left of it. */
        void pass(int n) {
            left -= n;
            if (left <= 0) {
                at += at < op.size ? 1 : 0;
                part = at < op.size ? op.parts[at] : 0;
                left = part < 0 ? -part : part > Op.KEPT ? part - Op.KEPT : part > 0 ? 1 : 0;
            }
        }
    }

    /** Letters, each with the OP of the server's row that PUT it (0 if none did, or nobody asks). */
    static final class Text {
        static final int WRITER_SHIFT = 5;
        static final int LETTER_MASK = 31;

        int[] letters = new int[MOST_LETTERS];
        int size = 0;

        void copy(Text from) {
            System.arraycopy(from.letters, 0, letters, 0, from.size);
            size = from.size;
        }

        void copyLetters(int[] from, int n) {
            size = Math.min(n, Math.min(from.length, letters.length));
            System.arraycopy(from, 0, letters, 0, size);
        }

        boolean hasPlace(int k) {
            return k >= 0 && k < size;
        }

        /** The letter at a place, 0 if there is none. */
        int letterAt(int k) {
            return hasPlace(k) ? letters[k] & LETTER_MASK : 0;
        }

        int writerOf(int k) {
            return hasPlace(k) ? letters[k] >> WRITER_SHIFT : 0;
        }

        int ask(int k) {
            if (k == NONE) {
                return size;
            }
            return hasPlace(k) ? letterAt(k) : NONE;
        }

        boolean isLike(Text with) {
            boolean like = size == with.size;
            for (int i = 0; i < size && like; i++) {
                like = letterAt(i) == with.letterAt(i);
            }
            return like;
        }
    }

    /** Inverts, composes and turns operations, with rows of its own that are used again and again. */
    static final class Weaver {
        private final Reader readA = new Reader();
        private final Reader readB = new Reader();
        private final Op outA = new Op();
        private final Op outB = new Op();
        private int[] spare = new int[MOST_LETTERS];
        final Op coming = new Op();
        final Op carried = new Op();

        void invert(Op op, Text text, Op inverse) {
            inverse.begin(op.size + text.size + 1);
            int at = 0;
            for (int i = 0; i < op.size; i++) {
                int part = op.parts[i];
                if (Op.isPut(part)) {
                    inverse.addCut(1);
                } else if (part > Op.KEPT) {
                    inverse.addKeep(part - Op.KEPT);
                    at += part - Op.KEPT;
                } else {
                    for (int end = Math.min(at - part, text.size); at < end; at++) {
                        inverse.addPut(text.letterAt(at));
                    }
                }
            }
        }

        /** The first one becomes what both do, one behind the other. */
        void compose(Op first, Op second) {
            int most = first.size + second.size;
            outA.begin(most);
            readA.open(first);
            readB.open(second);
            for (int i = 0; i < most; i++) {
                if (readA.isAtCut()) {
                    outA.addCut(readA.left);
                    readA.pass(readA.left);
                } else if (readB.isAtPut()) {
                    outA.addPut(readB.part);
                    readB.pass(1);
                } else {
                    composeCommon();
                }
            }
            first.swap(outA);
        }

        private void composeCommon() {
            int n = Math.min(readA.left, readB.left);
            if (n <= 0) {
                return;
            }
            boolean isCut = readB.isAtCut();
            if (!readA.isAtPut()) {
                if (isCut) {
                    outA.addCut(n);
                } else {
                    outA.addKeep(n);
                }
            } else if (!isCut) {
                outA.addPut(readA.part);
            }
            readA.pass(n);
            readB.pass(n);
        }

        /** Each becomes what it is behind the other one; where both PUT, a is ahead or b. */
        void turn(Op a, Op b, boolean isAAhead) {
            int most = a.size + b.size;
            outA.begin(most);
            outB.begin(most);
            readA.open(a);
            readB.open(b);
            for (int i = 0; i < most; i++) {
                if (readA.isAtPut() && (isAAhead || !readB.isAtPut())) {
                    outA.addPut(readA.part);
                    outB.addKeep(1);
                    readA.pass(1);
                } else if (readB.isAtPut()) {
                    outB.addPut(readB.part);
                    outA.addKeep(1);
                    readB.pass(1);
                } else {
                    turnCommon();
                }
            }
            a.swap(outA);
            b.swap(outB);
        }

        private void turnCommon() {
            int n = Math.min(readA.left, readB.left);
            if (n <= 0) {
                return;
            }
            boolean isCutByA = readA.isAtCut();
            boolean isCutByB = readB.isAtCut();
            if (!isCutByA && !isCutByB) {
                outA.addKeep(n);
                outB.addKeep(n);
            } else if (!isCutByB) {
                outA.addCut(n);
            } else if (!isCutByA) {
                outB.addCut(n);
            }
            readA.pass(n);
            readB.pass(n);
        }

        /** What comes is carried through a row of inverses, the latest first. */
        void turnAll(Inverses inverses, boolean isAhead) {
            carried.copy(coming);
            for (int i = inverses.size - 1; i >= 0; i--) {
                turn(inverses.ops[i], carried, isAhead);
            }
        }

        void change(Text text, Op op, int writer) {
            int from = 0;
            int to = 0;
            for (int i = 0; i < op.size; i++) {
                int part = op.parts[i];
                if (part < 0) {
                    from -= part;
                } else if (part > Op.KEPT) {
                    int n = Math.min(part - Op.KEPT, Math.min(text.size - from, spare.length - to));
                    if (n > 0) {
                        System.arraycopy(text.letters, from, spare, to, n);
                        from += n;
                        to += n;
                    }
                } else if (to < spare.length) {
                    spare[to++] = part | writer << Text.WRITER_SHIFT;
                }
            }
            int[] letters = text.letters;
            text.letters = spare;
            text.size = to;
            spare = letters;
        }
    }

    /** UNDOS or DONES of an editor: the last one is of its text, each other one of the text behind the next. */
    static final class Inverses {
        final Op[] ops = new Op[MOST_INVERSES];
        int size = 0;

        Inverses() {
            for (int i = 0; i < ops.length; i++) {
                ops[i] = new Op();
            }
        }

        void copy(Inverses from) {
            for (int i = 0; i < from.size; i++) {
                ops[i].copy(from.ops[i]);
            }
            size = from.size;
        }

        /** Room for one more at the end; the first one goes if it must. */
        Op addOne() {
            if (size < ops.length) {
                return ops[size++];
            }
            Op first = ops[0];
            for (int i = 1; i < size; i++) {
                ops[i - 1] = ops[i];
            }
            ops[size - 1] = first;
            return first;
        }

        int findLatestThatChanges() {
            int i = size - 1;
            while (i >= 0 && !ops[i].changesSomething()) {
                i--;
            }
            return i >= 0 ? i : NONE;
        }

        int askLatest(int k, int what) {
            return size > 0 ? ops[size - 1].ask(k, what) : NONE;
        }
    }

    /**
     * One editor. What is on its way from it is PENDING itself: turned over what came since it was sent, it is
     * of the editor's REVISION, and the server has only to go on from there. What is on its way to it are the
     * OPS of the row behind its REVISION.
     */
    static final class Editor {
        final Text text = new Text();
        final Op pending = new Op();
        final Op buffer = new Op();
        final Inverses undos = new Inverses();
        final Inverses dones = new Inverses();
        final int[] marks = new int[3 * MOST_MARKS];
        final int[] ticksLeftTo = new int[MOST_EDITS];
        int markCount = 0;
        int revision = 0;
        int place = 0;
        int delay = 1;
        int ticksLeft = NONE;
        boolean isPending = false;
        boolean isBuffered = false;
        boolean isOn = true;

        void begin(Text start) {
            text.copy(start);
            undos.size = 0;
            dones.size = 0;
            markCount = 0;
            revision = 0;
            place = 0;
            delay = 1;
            ticksLeft = NONE;
            isPending = false;
            isBuffered = false;
            isOn = true;
        }

        void copyLine(Editor from) {
            pending.copy(from.pending);
            buffer.copy(from.buffer);
            System.arraycopy(from.ticksLeftTo, 0, ticksLeftTo, 0, ticksLeftTo.length);
            revision = from.revision;
            delay = from.delay;
            ticksLeft = from.ticksLeft;
            isPending = from.isPending;
            isBuffered = from.isBuffered;
            isOn = from.isOn;
        }

        void copyText(Editor from) {
            text.copy(from.text);
            undos.copy(from.undos);
            dones.copy(from.dones);
            System.arraycopy(from.marks, 0, marks, 0, marks.length);
            markCount = from.markCount;
            place = from.place;
        }

        boolean hasMark(int k) {
            return k >= 0 && k < markCount;
        }

        int addMark(int from, int to, int grows) {
            int at = 3 * markCount;
            if (at + 2 >= marks.length) {
                return NONE;
            }
            marks[at] = from;
            marks[at + 1] = to;
            marks[at + 2] = grows;
            return markCount++;
        }

        void dropMark(int k) {
            for (int i = 3 * k; i >= 0 && i + 3 < marks.length; i++) {
                marks[i] = marks[i + 3];
            }
            markCount--;
        }

        void carryPlaces(Op op, boolean isOwn) {
            place = op.carry(place, isOwn);
            for (int i = 0; i + 2 < 3 * markCount && i + 2 < marks.length; i += 3) {
                int grows = marks[i + 2];
                marks[i] = op.carry(marks[i], grows % 2 == 0);
                marks[i + 1] = Math.max(marks[i], op.carry(marks[i + 1], grows >= 2));
            }
        }

        void send() {
            isPending = true;
            ticksLeft = delay;
        }

        void takeOwn() {
            isPending = false;
            if (isBuffered) {
                pending.swap(buffer);
                isBuffered = false;
                send();
            }
        }

        void passTick(int ops) {
            if (ticksLeft > 0) {
                ticksLeft--;
            }
            for (int i = revision; i < ops && i < ticksLeftTo.length; i++) {
                if (ticksLeftTo[i] > 0) {
                    ticksLeftTo[i]--;
                }
            }
        }
    }

    /**
     * The OPS that the server took. Worlds share it: each has the first so many of them, and a world that goes
     * on writes behind these, where no world that is kept for back() has any.
     */
    static final class Row {
        final Text start = new Text();
        final Op[] ops = new Op[MOST_EDITS];
        final int[] owners = new int[MOST_EDITS];

        Row() {
            for (int i = 0; i < ops.length; i++) {
                ops[i] = new Op();
            }
        }
    }

    /** All that ACTS change: the server, the editors, what is on its way. */
    static final class World {
        final Row row;
        final Weaver weaver;
        final Text server = new Text();
        final Editor[] editors = new Editor[MOST_EDITORS];
        final int[] foreignCuts = new int[MOST_EDITORS];
        boolean isWhole = true;
        int count = 0;
        int ties = 0;
        int tick = 0;
        int edits = 0;
        int lettersPut = 0;
        int ops = 0;

        World(Row row, Weaver weaver) {
            this.row = row;
            this.weaver = weaver;
            for (int i = 0; i < editors.length; i++) {
                editors[i] = new Editor();
            }
        }

        void begin(int editorCount) {
            count = Math.min(editorCount, editors.length);
            server.copy(row.start);
            for (int i = 0; i < editors.length; i++) {
                editors[i].begin(row.start);
                foreignCuts[i] = 0;
            }
            ties = 0;
            tick = 0;
            edits = 0;
            lettersPut = 0;
            ops = 0;
        }

        /** One that is not whole has no texts of editors and nothing that is carried along with them. */
        void copy(World from, boolean whole) {
            isWhole = whole;
            count = from.count;
            ties = from.ties;
            tick = from.tick;
            edits = from.edits;
            lettersPut = from.lettersPut;
            ops = from.ops;
            server.copy(from.server);
            for (int i = 0; i < count; i++) {
                foreignCuts[i] = from.foreignCuts[i];
                editors[i].copyLine(from.editors[i]);
                if (whole) {
                    editors[i].copyText(from.editors[i]);
                }
            }
        }

        boolean knows(int editor) {
            return editor >= 0 && editor < count && editor < editors.length;
        }

        /** Whether at one place what an editor PUTS is ahead of what an OP of the server by another one PUT. */
        boolean isAhead(int editor, int owner) {
            if (ties == 0) {
                return editor < owner;
            }
            return ties == 1 && editor > owner;
        }

        int onTheirWay() {
            int n = 0;
            for (int i = 0; i < count; i++) {
                n += ops - editors[i].revision + (editors[i].ticksLeft == NONE ? 0 : 1);
            }
            return n;
        }

        int ownerOf(int op) {
            return op >= 1 && op <= ops ? row.owners[op - 1] : NONE;
        }

        int countLettersBy(int editor) {
            int n = 0;
            for (int i = 0; i < server.size; i++) {
                n += ownerOf(server.writerOf(i)) == editor ? 1 : 0;
            }
            return n;
        }

        boolean canPut(int editor, int at, int letter) {
            return canPlace(editor, at) && letter >= 1 && letter <= ALPHABET;
        }

        boolean canCut(int editor, int at, int n) {
            return canPlace(editor, at) && n >= 1 && n <= editors[editor].text.size - at;
        }

        boolean canPlace(int editor, int at) {
            return knows(editor) && at >= 0 && at <= editors[editor].text.size;
        }

        boolean canMark(int editor, int from, int to, int grows) {
            return canPlace(editor, from) && canPlace(editor, to) && from <= to
                && grows >= 0 && grows <= MOST_GROWS && editors[editor].markCount < MOST_MARKS;
        }

        boolean canTick(int n) {
            return count > 0 && n >= 1 && n <= MOST_TICKS && tick + n <= MOST_TICK;
        }

        /** Whether an OP that is of an editor's TEXT can be an EDIT. */
        boolean canEdit(Op op) {
            return op.changesSomething() && edits < MOST_EDITS && lettersPut + op.countPut() <= MOST_PUT;
        }

        void editPlainly(Editor who, Op op) {
            weaver.invert(op, who.text, who.undos.addOne());
            who.dones.size = 0;
            makeEdit(who, op);
        }

        void editByInverse(Editor who, Inverses from, Inverses onto, int which) {
            if (which < 0 || which >= from.size) {
                return;
            }
            Op op = from.ops[which];
            from.size = which;
            weaver.invert(op, who.text, onto.addOne());
            makeEdit(who, op);
        }

        private void makeEdit(Editor who, Op op) {
            edits++;
            lettersPut += op.countPut();
            who.carryPlaces(op, true);
            weaver.change(who.text, op, 0);
            if (!who.isPending) {
                who.pending.copy(op);
                who.send();
            } else if (who.isBuffered) {
                weaver.compose(who.buffer, op);
            } else {
                who.buffer.copy(op);
                who.isBuffered = true;
            }
        }

        void runTick() {
            for (int i = 0; i < count; i++) {
                if (editors[i].isOn) {
                    editors[i].passTick(ops);
                }
            }
            for (int i = 0; i < count; i++) {
                if (editors[i].isOn && editors[i].ticksLeft == 0) {
                    takeFrom(i);
                }
            }
            for (int i = 0; i < count; i++) {
                Editor who = editors[i];
                for (int n = who.revision; n < ops && who.isOn && who.ticksLeftTo[n] == 0; n++) {
                    bringTo(i);
                }
            }
            tick++;
        }

        /** What is on its way from an editor comes to the server. */
        void takeFrom(int editor) {
            if (!knows(editor) || ops >= row.ops.length) {
                return;
            }
            Editor who = editors[editor];
            Op next = row.ops[ops];
            next.copy(who.pending);
            for (int i = who.revision; i < ops; i++) {
                weaver.coming.copy(row.ops[i]);
                weaver.turn(next, weaver.coming, isAhead(editor, row.owners[i]));
            }
            foreignCuts[editor] += countForeignCuts(next, editor);
            row.owners[ops] = editor;
            for (int i = 0; i < count; i++) {
                editors[i].ticksLeftTo[ops] = editors[i].delay;
            }
            ops++;
            weaver.change(server, next, ops);
            who.ticksLeft = NONE;
        }

        private int countForeignCuts(Op op, int editor) {
            int n = 0;
            int at = 0;
            for (int i = 0; i < op.size; i++) {
                int part = op.parts[i];
                if (part > Op.KEPT) {
                    at += part - Op.KEPT;
                }
                for (int end = part < 0 ? at - part : at; at < end; at++) {
                    n += ownerOf(server.writerOf(at)) == editor ? 0 : 1;
                }
            }
            return n;
        }

        /** The next OP of the row comes to an editor. */
        private void bringTo(int editor) {
            Editor who = editors[editor];
            int owner = row.owners[who.revision];
            Op coming = weaver.coming;
            coming.copy(row.ops[who.revision]);
            who.revision++;
            if (owner == editor) {
                who.takeOwn();
                return;
            }
            boolean isAhead = isAhead(editor, owner);
            if (who.isPending) {
                weaver.turn(who.pending, coming, isAhead);
            }
            if (who.isBuffered) {
                weaver.turn(who.buffer, coming, isAhead);
            }
            if (isWhole) {
                who.carryPlaces(coming, false);
                weaver.change(who.text, coming, 0);
                weaver.turnAll(who.undos, isAhead);
                weaver.turnAll(who.dones, isAhead);
            }
        }
    }

    /** The worlds as they were ahead of the last ACTS. */
    static final class History {
        private final World[] kept = new World[MOST_BACK];
        private int first = 0;
        int size = 0;
        /** How often the world has become another one. */
        int changes = 0;

        void begin() {
            size = 0;
            changes++;
        }

        void keep(World world) {
            changes++;
            int at = (first + size) % MOST_BACK;
            if (size < MOST_BACK) {
                size++;
            } else {
                first = (first + 1) % MOST_BACK;
            }
            if (kept[at] == null) {
                kept[at] = new World(world.row, world.weaver);
            }
            kept[at].copy(world, true);
        }

        boolean restore(World world) {
            int at = size > 0 ? (first + size - 1) % MOST_BACK : 0;
            if (size == 0 || kept[at] == null) {
                return false;
            }
            size--;
            changes++;
            world.copy(kept[at], true);
            return true;
        }
    }

    /** ORDERS with their ENDS, and what is SEEN of these. */
    static final class Comings {
        final Text[] ends = new Text[MOST_ORDERS];
        private final int[] waiting = new int[MOST_EDITORS];
        private final int[] free = new int[MOST_EDITORS];
        private final int[] seenPlaces = new int[MOST_SEEN];
        private final int[] seenLetters = new int[MOST_SEEN];
        private final int[] tally = new int[ALPHABET + 1];
        private int waitingCount = 0;
        int count = 0;
        int seen = 0;
        int knownAt = NONE;

        Comings() {
            for (int i = 0; i < ends.length; i++) {
                ends[i] = new Text();
            }
        }

        void reckon(World now, World trial) {
            waitingCount = 0;
            count = 1;
            for (int i = 0; i < now.count && i < waiting.length; i++) {
                if (now.editors[i].ticksLeft != NONE) {
                    waiting[waitingCount++] = i;
                    count *= waitingCount;
                }
            }
            for (int n = 0; n < count && n < ends.length; n++) {
                trial.copy(now, false);
                takeInOrder(n, trial);
                ends[n].copy(trial.server);
            }
        }

        /** The n-th row of those who wait: how many rows begin with each choice tells which one is next. */
        private void takeInOrder(int n, World trial) {
            System.arraycopy(waiting, 0, free, 0, waitingCount);
            int rest = n;
            int rows = count;
            for (int left = waitingCount; left > 0; left--) {
                rows /= left;
                int choice = rows > 0 ? rest / rows : 0;
                rest -= choice * rows;
                if (choice < left) {
                    trial.takeFrom(free[choice]);
                    System.arraycopy(free, choice + 1, free, choice, left - choice - 1);
                }
            }
        }

        int countUnlike() {
            int unlike = 0;
            for (int i = 0; i < count; i++) {
                boolean isNew = true;
                for (int j = 0; j < i && isNew; j++) {
                    isNew = !ends[i].isLike(ends[j]);
                }
                unlike += isNew ? 1 : 0;
            }
            return unlike;
        }

        boolean canSee(int[] bytes, int length) {
            if (length < 2 || length > 2 * MOST_SEEN || length % 2 != 0 || length > bytes.length) {
                return false;
            }
            for (int i = 0; i + 1 < length; i += 2) {
                if (bytes[i] >= MOST_LETTERS || bytes[i + 1] > ALPHABET) {
                    return false;
                }
            }
            return true;
        }

        void setSeen(int[] bytes, int length) {
            seen = Math.min(length / 2, MOST_SEEN);
            for (int i = 0; i < seen && 2 * i + 1 < bytes.length; i++) {
                seenPlaces[i] = bytes[2 * i];
                seenLetters[i] = bytes[2 * i + 1];
            }
        }

        private boolean isFit(int n) {
            for (int i = 0; i < seen; i++) {
                if (ends[n].letterAt(seenPlaces[i]) != seenLetters[i]) {
                    return false;
                }
            }
            return true;
        }

        int countFits() {
            int fits = 0;
            for (int n = 0; n < count; n++) {
                fits += isFit(n) ? 1 : 0;
            }
            return fits;
        }

        int findFit(int k) {
            int before = 0;
            for (int n = 0; n < count; n++) {
                if (isFit(n)) {
                    if (before == k) {
                        return n;
                    }
                    before++;
                }
            }
            return NONE;
        }

        int findTelling() {
            int best = 0;
            int fewest = MOST_ORDERS + 1;
            for (int place = 0; place < MOST_LETTERS; place++) {
                int most = countMostLeft(place);
                if (most < fewest) {
                    fewest = most;
                    best = place;
                }
            }
            return best;
        }

        /** How many FITS are left at the most, once it is known what stands at a place. */
        int countMostLeft(int place) {
            Arrays.fill(tally, 0);
            int most = 0;
            for (int n = 0; n < count; n++) {
                int letter = ends[n].letterAt(place);
                if (letter < tally.length && isFit(n)) {
                    tally[letter]++;
                    most = Math.max(most, tally[letter]);
                }
            }
            return most;
        }
    }

    /** The tape, and what was read from it. */
    static final class Told {
        static final int TEXT = 0;
        static final int DELAY = 1;
        static final int TIES = 2;
        static final int EDIT = 3;
        static final int CURSOR = 4;
        static final int MARK = 5;
        static final int OFF = 6;
        static final int ON = 7;
        static final int TICK = 8;
        static final int EDITORS = 9;

        private static final int MOST_BYTES = 1600;
        private static final int MOST_STATEMENTS = 60;
        private static final int MOST_STEPS = 40;
        private static final int MOST_TOLD_LETTERS = 40;
        private static final int MOST_STEP_LETTERS = 20;
        private static final int MOST_NUMBER = 99;
        private static final int FAULT_FORM = 1;
        private static final int FAULT_NUMBER = 2;
        private static final int FAULT_TOO_MANY = 5;

        final int[] bytes = new int[MOST_BYTES];
        int length = 0;
        int fault = 0;
        int faultPlace = 0;
        int count = 0;
        int editors = 0;
        int wordLength = 0;
        /** What was told, as parts of an OP; the first wordLength of a session's are its text. */
        final int[] parts = new int[MOST_BYTES];
        int used = 0;
        final int[] kinds = new int[MOST_STATEMENTS];
        private final int[] numbers = new int[4 * MOST_STATEMENTS];
        private int at = 0;

        boolean hasRoom(int n) {
            return length + n <= bytes.length;
        }

        void addNumber(int number) {
            for (int shift = 24; shift >= 0 && length < bytes.length; shift -= 8) {
                bytes[length++] = number >> shift & 255;
            }
        }

        /** The k-th number of a STATEMENT; an edit's second and third are where its parts begin and end. */
        int numberOf(int statement, int k) {
            int i = 4 * statement + k;
            return i >= 0 && i < numbers.length ? numbers[i] : 0;
        }

        boolean readSession() {
            open();
            for (int n = 0; n < MOST_STATEMENTS && fault == 0 && (n == 0 || at < length); n++) {
                int kind = readKeyword();
                kinds[count] = kind;
                if (kind != NONE && readRest(kind) && readSign(';')) {
                    count++;
                    skipBlanks();
                }
            }
            if (fault == 0 && at < length) {
                fail(FAULT_TOO_MANY, at);
            }
            length = 0;
            return fault == 0;
        }

        boolean readOp() {
            open();
            readSteps(NONE);
            if (fault == 0 && at < length) {
                fail(FAULT_FORM, at);
            }
            length = 0;
            return fault == 0;
        }

        private void open() {
            at = 0;
            fault = 0;
            count = 0;
            used = 0;
        }

        private boolean fail(int kind, int place) {
            fault = kind;
            faultPlace = place;
            return false;
        }

        private int look() {
            return at < length ? bytes[at] : NONE;
        }

        private boolean isAtLetter() {
            return at < length && bytes[at] >= 'a' && bytes[at] <= 'z';
        }

        private boolean isAtDigit() {
            return at < length && bytes[at] >= '0' && bytes[at] <= '9';
        }

        private void skipBlanks() {
            while (at < length && (bytes[at] == 10 || bytes[at] == 32)) {
                at++;
            }
        }

        private boolean readRest(int kind) {
            switch (kind) {
                case TEXT: return readText();
                case TIES: return readNumber(0, 0, 2);
                case TICK: return readNumber(0, 1, MOST_TICKS);
                case DELAY: return readEditor() && readNumber(1, 0, MOST_DELAY);
                case EDIT: return readEditor() && readSteps(';');
                case CURSOR: return readEditor() && readNumber(1, 0, MOST_NUMBER);
                case MARK:
                    return readEditor() && readNumber(1, 0, MOST_NUMBER) && readNumber(2, 0, MOST_NUMBER)
                        && readNumber(3, 0, MOST_GROWS);
                default: return readEditor();
            }
        }

        private boolean readText() {
            if (!readWord(MOST_TOLD_LETTERS) || !endsWell()) {
                return false;
            }
            wordLength = used;
            skipBlanks();
            int start = at;
            if (findKeyword() != EDITORS) {
                return fail(FAULT_FORM, start);
            }
            if (!endsWell() || !readNumber(0, 2, MOST_EDITORS)) {
                return false;
            }
            editors = numberOf(count, 0);
            return true;
        }

        private boolean readEditor() {
            return readNumber(0, 0, editors - 1);
        }

        /** The keyword of a STATEMENT that can stand here, NONE with a FAULT. */
        private int readKeyword() {
            skipBlanks();
            int start = at;
            int kind = findKeyword();
            if (kind == NONE || kind == EDITORS || (kind == TEXT) != (count == 0)) {
                fail(FAULT_FORM, start);
                return NONE;
            }
            return endsWell() ? kind : NONE;
        }

        private int findKeyword() {
            int start = at;
            while (at < length && isAtLetter()) {
                at++;
            }
            for (int kind = TEXT; kind <= EDITORS; kind++) {
                if (isWord(nameOf(kind), start)) {
                    return kind;
                }
            }
            return NONE;
        }

        private boolean isWord(String name, int start) {
            boolean same = name.length() == at - start;
            for (int i = 0; i < name.length() && same; i++) {
                same = bytes[start + i] == name.charAt(i);
            }
            return same;
        }

        private static String nameOf(int kind) {
            switch (kind) {
                case TEXT: return "text";
                case DELAY: return "delay";
                case TIES: return "ties";
                case EDIT: return "edit";
                case CURSOR: return "cursor";
                case MARK: return "mark";
                case OFF: return "off";
                case ON: return "on";
                case TICK: return "tick";
                default: return "editors";
            }
        }

        /** A word and a number side by side need a blank. */
        private boolean endsWell() {
            return !isAtDigit() || fail(FAULT_FORM, at);
        }

        private boolean readWord(int most) {
            skipBlanks();
            int start = at;
            while (at < length && at - start < most && isAtLetter()) {
                addPart(bytes[at] - 'a' + 1);
                at++;
            }
            return (at > start && !isAtLetter()) || fail(FAULT_FORM, at);
        }

        private boolean readSign(int sign) {
            skipBlanks();
            if (look() != sign) {
                return fail(FAULT_FORM, at);
            }
            at++;
            return true;
        }

        /** The k-th number of the STATEMENT that is read. */
        private boolean readNumber(int k, int least, int most) {
            int n = readDigits(least, most);
            setNumber(k, n);
            return n != NONE;
        }

        private int readDigits(int least, int most) {
            skipBlanks();
            int start = at;
            int n = 0;
            while (at < length && at - start < 2 && isAtDigit()) {
                n = 10 * n + bytes[at] - '0';
                at++;
            }
            if (at == start || isAtDigit()) {
                fail(FAULT_FORM, at);
                return NONE;
            }
            if (n < least || n > most) {
                fail(FAULT_NUMBER, start);
                return NONE;
            }
            return n;
        }

        private void setNumber(int k, int n) {
            int i = 4 * count + k;
            if (i >= 0 && i < numbers.length) {
                numbers[i] = n;
            }
        }

        private void addPart(int part) {
            if (used < parts.length) {
                parts[used++] = part;
            }
        }

        /** The STEPS of an OP that ends at a sign, or, if that is NONE, with the tape. */
        private boolean readSteps(int sign) {
            setNumber(1, used);
            skipBlanks();
            if (!isAtStep()) {
                return fail(FAULT_FORM, at);
            }
            int steps = 0;
            while (steps < MOST_STEPS && isAtStep()) {
                if (!readStep()) {
                    return false;
                }
                steps++;
                // behind the last STEP that there can be, a digit is one too many and not one that lacks a blank
                if (steps < MOST_STEPS && !endsWell()) {
                    return false;
                }
                skipBlanks();
            }
            setNumber(2, used);
            return steps < MOST_STEPS || look() == NONE || look() == sign || fail(FAULT_TOO_MANY, at);
        }

        private boolean isAtStep() {
            return isAtDigit() || look() == '+' || look() == '-';
        }

        private boolean readStep() {
            int sign = look();
            if (sign == '+') {
                at++;
                return readWord(MOST_STEP_LETTERS);
            }
            if (sign == '-') {
                at++;
            }
            int n = readDigits(1, MOST_NUMBER);
            if (n == NONE) {
                return false;
            }
            addPart(sign == '-' ? -n : Op.KEPT + n);
            return true;
        }
    }
}
