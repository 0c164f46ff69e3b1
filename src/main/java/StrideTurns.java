/**
 * Array section paralleliser. A loop of turns works on rows of numbers; this class tells which cells
 * each turn reads and writes, which rows the turns may share, gather or copy, and runs the loop in
 * order or by workers whose steps are mixed.
 *
 * <p>A cell is held as a double, whatever the form of its row: every short, int and float is a double,
 * too, and a truth is 1 or 0. No cell ever holds -0.0, an infinity or a NaN.
 */
public final class StrideTurns {
    public static final int NONE = -1, BAD = -2, NOT = -3, FULL = -4;

    private static final int LEAST = Integer.MIN_VALUE;
    private static final int ROWS = 6, CELLS = 24, TURNS = 10, STATEMENTS = 5, ITEMS = 5, REFERENCES = 3;
    private static final int SHORTS = 0, INTS = 1, FLOATS = 2, DOUBLES = 3, TRUTHS = 4;
    private static final int NULL = 1, INDEX = 2, CAST = 3, STORE = 4, SIZE = 5;
    private static final int TARGET = 0, LEFT = 1, RIGHT = 2;
    private static final int GONE = 0, OUTSIDE = 1, OVER = 2, FAULTS = 3;
    private static final int ADD = 0, SUB = 1, MUL = 2, REM = 3, MAX = 4, MIN = 5, AND = 6, OR = 7, XOR = 8;
    private static final int COPY = 9, PICK = 10, SURE_SUM = 11, SURE_PRODUCT = 12, OPERATIONS = 13;
    private static final int READ = 0, WRITTEN = 1, SURE = 2, EXPOSED = 3, SETS = 4;
    private static final int READ_ONLY = 0, SHARED = 1, GATHERED = 2, COPIED = 3, SERIAL = 4;
    private static final int TOLD_TURNS = 0, TOLD_STATEMENT = 1, TOLD_REFER = 2, TOLD_PLACE = 3;
    private static final int TOLD_GUARD = 4, TOLD_MASK = 5;
    private static final int TEXT = 5, FARTHEST = 60, SHIFT = 6, PERIODS = 6;
    private static final int WORKERS = 4, DEALS = 3, SEEDS = 64;

    private final Rows rows = new Rows();
    private final Loop loop = new Loop();
    private final History history = new History();
    private final int[] text = new int[TEXT];
    private final Summary summary = new Summary(rows, loop);
    private final Kinds unlike = new Kinds();
    private final Section one = new Section();
    private final Section other = new Section();
    private final Section both = new Section();
    private final Runner runner = new Runner(loop);
    private final Outcome outcome = new Outcome();
    private final Rows orderedRows = new Rows();
    private final Rows mixedRows = new Rows();
    private final Outcome orderedOutcome = new Outcome();
    private final Outcome mixedOutcome = new Outcome();
    private int textLength;
    private int latestFinding;

    public StrideTurns() {
    }

    // ---- rows

    public int row(int r, int form, int n) {
        if (!isRow(r) || !within(form, SHORTS, TRUTHS) || n > CELLS) {
            return BAD;
        }
        if (n < 0) {
            return found(SIZE);
        }
        rows.make(r, form, n);
        summary.stale = true;
        return n;
    }

    public int lose(int r) {
        if (!isRow(r)) {
            return BAD;
        }
        if (rows.isMissing(r)) {
            return found(NULL);
        }
        int had = rows.sizes[r];
        rows.make(r, NONE, 0);
        summary.stale = true;
        return had;
    }

    public int put(int r, int form, int i, int v) {
        if (!isRow(r) || !within(form, SHORTS, TRUTHS)) {
            return BAD;
        }
        if (rows.isMissing(r)) {
            return found(NULL);
        }
        if (rows.forms[r] != form) {
            return found(CAST);
        }
        if (!rows.hasCell(r, i)) {
            return found(INDEX);
        }
        rows.cells[r * CELLS + i] = Numbers.told(form, v);
        summary.stale = true;
        return 1;
    }

    public long get(int r, int i) {
        if (!isRow(r)) {
            return longRefusal(BAD);
        }
        if (rows.isMissing(r)) {
            return longRefusal(found(NULL));
        }
        if (!rows.hasCell(r, i)) {
            return longRefusal(found(INDEX));
        }
        return Numbers.shown(rows.forms[r], rows.cells[r * CELLS + i]);
    }

    public int copy(int r, int i, int t, int j, int n) {
        if (!isRow(r) || !isRow(t)) {
            return BAD;
        }
        if (rows.isMissing(r) || rows.isMissing(t)) {
            return found(NULL);
        }
        if (rows.forms[r] != rows.forms[t]) {
            return found(STORE);
        }
        if (!rows.hasCells(r, i, n) || !rows.hasCells(t, j, n)) {
            return found(INDEX);
        }
        System.arraycopy(rows.cells, r * CELLS + i, rows.cells, t * CELLS + j, n);
        summary.stale = true;
        return 1;
    }

    // ---- the loop

    public int turns(int n) {
        if (!within(n, 0, TURNS)) {
            return BAD;
        }
        int was = loop.turnCount;
        history.note(TOLD_TURNS, NONE, NONE);
        history.keep(was, 0, 0);
        loop.turnCount = n;
        summary.stale = true;
        return was;
    }

    public int type(int b) {
        if (!within(b, 0, 255)) {
            return BAD;
        }
        if (textLength >= TEXT) {
            return FULL;
        }
        text[textLength++] = b;
        return textLength;
    }

    public int wipe() {
        int had = textLength;
        textLength = 0;
        return had;
    }

    public int statement(int count) {
        if (!within(count, 1, ITEMS)) {
            return BAD;
        }
        int operation = operationTyped();
        if (operation == NONE) {
            return NOT;
        }
        if (loop.statementCount >= STATEMENTS) {
            return FULL;
        }
        int k = loop.statementCount++;
        loop.statements[k].begin(operation, count);
        history.note(TOLD_STATEMENT, k, NONE);
        textLength = 0;
        summary.stale = true;
        return k;
    }

    public int refer(int k, int which, int r) {
        if (!isReference(k, which) || !within(r, which == TARGET ? 0 : NONE, ROWS - 1)) {
            return BAD;
        }
        Reference reference = loop.statements[k].references[which];
        int was = reference.row;
        history.note(TOLD_REFER, k, which);
        history.keep(was, 0, 0);
        reference.row = r;
        summary.stale = true;
        return was;
    }

    public int place(int k, int which, int from, int by, int step) {
        if (!isReference(k, which) || !within(from, -FARTHEST, FARTHEST)
                || !within(by, -SHIFT, SHIFT) || !within(step, -SHIFT, SHIFT)) {
            return BAD;
        }
        Reference reference = loop.statements[k].references[which];
        history.note(TOLD_PLACE, k, which);
        history.keep(reference.from, reference.by, reference.step);
        reference.lie(from, by, step);
        summary.stale = true;
        return 1;
    }

    public int guard(int k, int period, int phase) {
        if (!isStatement(k) || !within(period, 1, PERIODS) || !within(phase, 0, period - 1)) {
            return BAD;
        }
        Statement told = loop.statements[k];
        history.note(TOLD_GUARD, k, NONE);
        history.keep(told.period, told.phase, 0);
        told.period = period;
        told.phase = phase;
        summary.stale = true;
        return 1;
    }

    public int mask(int k, int r) {
        if (!isStatement(k) || !within(r, NONE, ROWS - 1)) {
            return BAD;
        }
        Statement told = loop.statements[k];
        int was = told.maskRow;
        history.note(TOLD_MASK, k, NONE);
        history.keep(was, 0, 0);
        told.maskRow = r;
        summary.stale = true;
        return was;
    }

    public int undo() {
        if (history.held == 0) {
            return NOT;
        }
        int act = history.takeBack(loop);
        summary.stale = true;
        return act;
    }

    public int info(int k, int what) {
        if (!isStatement(k)) {
            return BAD;
        }
        Statement told = loop.statements[k];
        switch (what) {
            case 0: return told.operation;
            case 1: return told.items;
            case 2: return told.period;
            case 3: return told.phase;
            case 4: return told.maskRow;
            case 5: return summary.familyOf(told, rows.forms[told.references[TARGET].row]);
            case 6: return loop.turnsDone(told, rows);
            default: return BAD;
        }
    }

    public int reference(int k, int which, int what) {
        if (!isReference(k, which)) {
            return LEAST;
        }
        Reference reference = loop.statements[k].references[which];
        switch (what) {
            case 0: return reference.row;
            case 1: return reference.from;
            case 2: return reference.by;
            case 3: return reference.step;
            default: return LEAST;
        }
    }

    // ---- sections

    public int section(int e, int i, int part) {
        if (!hasSection(e) || !isTurn(i)) {
            return LEAST;
        }
        lay(one, e, i);
        return one.part(part, LEAST);
    }

    public int meet(int e, int i, int g, int h, int part) {
        if (!hasSection(e) || !isTurn(i) || !hasSection(g) || !isTurn(h)) {
            return LEAST;
        }
        lay(one, e, i);
        lay(other, g, h);
        both.cross(one, other);
        return part == 3 ? one.length - both.length : both.part(part, LEAST);
    }

    public int kinds(int k, int r) {
        if (!isStatement(k) || !isRow(r)) {
            return BAD;
        }
        unlike.collect(loop, rows, loop.statements[k], r);
        return unlike.found;
    }

    public int kind(int k, int r, int n, int part) {
        if (!isStatement(k) || !isRow(r)) {
            return LEAST;
        }
        unlike.collect(loop, rows, loop.statements[k], r);
        if (!within(n, 0, unlike.found - 1)) {
            return LEAST;
        }
        return part == 3 ? unlike.often[n] : unlike.sections[n].part(part, LEAST);
    }

    // ---- sets

    public int many(int set, int r, int i) {
        if (!isSet(set, r, i)) {
            return BAD;
        }
        summary.refresh();
        return Integer.bitCount(summary.cellsOf(set, r, i));
    }

    public int pieces(int set, int r, int i) {
        if (!isSet(set, r, i)) {
            return BAD;
        }
        summary.refresh();
        int left = summary.cellsOf(set, r, i);
        int taken = 0;
        for (; taken < CELLS && left != 0; taken++) {
            left = one.takePiece(left);
        }
        return taken;
    }

    public int piece(int set, int r, int i, int p, int part) {
        if (!isSet(set, r, i) || !within(p, 0, CELLS - 1)) {
            return BAD;
        }
        summary.refresh();
        int left = summary.cellsOf(set, r, i);
        for (int taken = 0; taken < p && left != 0; taken++) {
            left = one.takePiece(left);
        }
        if (left == 0) {
            return BAD;
        }
        one.takePiece(left);
        return one.part(part, BAD);
    }

    public int verdict(int r) {
        if (!isRow(r)) {
            return BAD;
        }
        summary.refresh();
        return summary.judge(r, rows.forms[r]);
    }

    public int would(int r, int form) {
        if (!isRow(r) || !within(form, SHORTS, DOUBLES)) {
            return BAD;
        }
        if (rows.isMissing(r)) {
            return found(NULL);
        }
        if (rows.forms[r] == TRUTHS) {
            return NOT;
        }
        summary.refresh();
        return summary.judge(r, form);
    }

    public int witness(int r, int part) {
        if (!isRow(r) || !within(part, 0, 2)) {
            return BAD;
        }
        summary.refresh();
        int later = summary.exposedTurn(r);
        if (later == NONE) {
            return NONE;
        }
        if (part == 1) {
            return later;
        }
        int cell = summary.exposedCell(r, later);
        return part == 2 ? cell : summary.lastTurn(WRITTEN, r, cell, later);
    }

    public int last(int set, int r, int c) {
        if (!within(set, WRITTEN, SURE) || !isRow(r) || !within(c, 0, CELLS - 1)) {
            return BAD;
        }
        summary.refresh();
        return summary.lastTurn(set, r, c, loop.turnCount);
    }

    // ---- runs

    public int run() {
        runner.treatAsTheyAre();
        runner.go(rows, outcome, 1, 0, 0);
        return outcome.items;
    }

    public int mixed(int workers, int deal, int seed, int force) {
        int refusal = mixedRefusal(workers, deal, seed, force);
        if (refusal != 0) {
            return refusal;
        }
        runner.treatByVerdict(summary);
        runner.go(rows, outcome, workers, deal, seed);
        return outcome.items;
    }

    public int same(int workers, int deal, int seed, int force) {
        int refusal = mixedRefusal(workers, deal, seed, force);
        if (refusal != 0) {
            return refusal;
        }
        orderedRows.take(rows);
        runner.treatAsTheyAre();
        runner.go(orderedRows, orderedOutcome, 1, 0, 0);
        mixedRows.take(rows);
        runner.treatByVerdict(summary);
        runner.go(mixedRows, mixedOutcome, workers, deal, seed);
        return orderedRows.alike(mixedRows) && orderedOutcome.alike(mixedOutcome) ? 1 : 0;
    }

    public int faults(int kind) {
        return within(kind, 0, FAULTS - 1) ? outcome.faulted[kind] : BAD;
    }

    public int ended(int p) {
        if (!within(p, 0, TURNS - 1)) {
            return BAD;
        }
        return p < outcome.endings ? outcome.order[p] : NONE;
    }

    public int writer(int r, int i) {
        if (!isRow(r)) {
            return BAD;
        }
        if (rows.isMissing(r)) {
            return found(NULL);
        }
        if (!rows.hasCell(r, i)) {
            return found(INDEX);
        }
        return rows.writers[r * CELLS + i];
    }

    public int count(int what) {
        switch (what) {
            case 0: return loop.turnCount;
            case 1: return loop.statementCount;
            case 2: return history.held;
            case 3: return textLength;
            case 4: return serialRows() == 0 ? 1 : 0;
            case 5: return serialRows();
            case 6: return outcome.items;
            case 7: return rows.missing();
            case 8: return latestFinding;
            default: return BAD;
        }
    }

    public long digest() {
        long h = 17;
        for (int what = 0; what <= 7; what++) {
            h = 31 * h + count(what);
        }
        for (int k = 0; k < loop.statementCount; k++) {
            h = withStatement(h, k);
        }
        for (int r = 0; r < ROWS; r++) {
            h = withSets(h, r);
        }
        for (int r = 0; r < ROWS; r++) {
            h = withCells(h, r);
        }
        for (int kind = 0; kind < FAULTS; kind++) {
            h = 31 * h + faults(kind);
        }
        for (int p = 0; p < TURNS; p++) {
            h = 31 * h + ended(p);
        }
        return h;
    }

    private long withStatement(long before, int k) {
        long h = before;
        for (int what = 0; what <= 6; what++) {
            h = 31 * h + info(k, what);
        }
        for (int which = 0; which < REFERENCES; which++) {
            h = withReference(h, k, which);
        }
        for (int r = 0; r < ROWS; r++) {
            h = 31 * h + kinds(k, r);
        }
        return h;
    }

    private long withReference(long before, int k, int which) {
        long h = before;
        for (int what = 0; what <= 3; what++) {
            h = 31 * h + reference(k, which, what);
        }
        if (reference(k, which, 0) != NONE && loop.turnCount > 0) {
            for (int part = 0; part <= 2; part++) {
                h = 31 * h + section(REFERENCES * k + which, 0, part);
            }
        }
        return h;
    }

    private long withSets(long before, int r) {
        long h = 31 * before + verdict(r);
        for (int part = 0; part <= 2; part++) {
            h = 31 * h + witness(r, part);
        }
        for (int set = 0; set < SETS; set++) {
            h = 31 * h + many(set, r, NONE);
            h = 31 * h + pieces(set, r, NONE);
            for (int i = 0; i < loop.turnCount; i++) {
                h = 31 * h + many(set, r, i);
            }
        }
        return h;
    }

    private long withCells(long before, int r) {
        long h = before;
        for (int c = 0; c < rows.sizes[r]; c++) {
            h = 31 * h + get(r, c);
            h = 31 * h + writer(r, c);
            h = 31 * h + last(WRITTEN, r, c);
            h = 31 * h + last(SURE, r, c);
        }
        return h;
    }

    // ---- what the face asks of its arguments

    private static boolean within(int v, int least, int most) {
        return v >= least && v <= most;
    }

    private static boolean isRow(int r) {
        return within(r, 0, ROWS - 1);
    }

    private boolean isTurn(int i) {
        return within(i, 0, loop.turnCount - 1);
    }

    private boolean isStatement(int k) {
        return within(k, 0, loop.statementCount - 1);
    }

    private boolean isReference(int k, int which) {
        return isStatement(k) && within(which, 0, REFERENCES - 1);
    }

    private boolean isSet(int set, int r, int i) {
        return within(set, 0, SETS - 1) && isRow(r) && (i == NONE || isTurn(i));
    }

    private boolean hasSection(int e) {
        return e >= 0 && isStatement(e / REFERENCES)
                && !loop.statements[e / REFERENCES].references[e % REFERENCES].isConstant();
    }

    private void lay(Section into, int e, int i) {
        Statement told = loop.statements[e / REFERENCES];
        into.lay(told.references[e % REFERENCES], i, told.items);
    }

    private int found(int finding) {
        latestFinding = finding;
        return -10 - finding;
    }

    private static long longRefusal(int refusal) {
        return Long.MIN_VALUE - refusal;
    }

    private int mixedRefusal(int workers, int deal, int seed, int force) {
        if (!within(workers, 1, WORKERS) || !within(deal, 0, DEALS - 1)
                || !within(seed, 0, SEEDS - 1) || !within(force, 0, 1)) {
            return BAD;
        }
        return force == 0 && serialRows() > 0 ? NOT : 0;
    }

    private int serialRows() {
        summary.refresh();
        int serial = 0;
        for (int r = 0; r < ROWS; r++) {
            if (summary.judge(r, rows.forms[r]) == SERIAL) {
                serial++;
            }
        }
        return serial;
    }

    private int operationTyped() {
        for (int operation = 0; operation < OPERATIONS; operation++) {
            if (isTyped(nameOf(operation))) {
                return operation;
            }
        }
        return NONE;
    }

    private boolean isTyped(String name) {
        if (name.length() != textLength) {
            return false;
        }
        for (int i = 0; i < textLength; i++) {
            if (name.charAt(i) != text[i]) {
                return false;
            }
        }
        return true;
    }

    private static String nameOf(int operation) {
        switch (operation) {
            case ADD: return "add";
            case SUB: return "sub";
            case MUL: return "mul";
            case REM: return "rem";
            case MAX: return "max";
            case MIN: return "min";
            case AND: return "and";
            case OR: return "or";
            case XOR: return "xor";
            case COPY: return "copy";
            case PICK: return "pick";
            case SURE_SUM: return "sure";
            default: return "times";
        }
    }

    /** The rows, with the turn that wrote each cell in the latest run. */
    private static final class Rows {
        final int[] forms = new int[ROWS];
        final int[] sizes = new int[ROWS];
        final double[] cells = new double[ROWS * CELLS];
        final int[] writers = new int[ROWS * CELLS];

        Rows() {
            for (int r = 0; r < ROWS; r++) {
                forms[r] = NONE;
            }
        }

        /** A row of form NONE is missing. */
        void make(int r, int form, int size) {
            forms[r] = form;
            sizes[r] = size;
            for (int at = r * CELLS; at < (r + 1) * CELLS; at++) {
                cells[at] = 0;
                writers[at] = NONE;
            }
        }

        void take(Rows from) {
            System.arraycopy(from.forms, 0, forms, 0, ROWS);
            System.arraycopy(from.sizes, 0, sizes, 0, ROWS);
            System.arraycopy(from.cells, 0, cells, 0, ROWS * CELLS);
        }

        void forgetWriters() {
            for (int at = 0; at < ROWS * CELLS; at++) {
                writers[at] = NONE;
            }
        }

        boolean isMissing(int r) {
            return forms[r] == NONE;
        }

        boolean isOfNumbers(int r) {
            return forms[r] >= SHORTS && forms[r] <= DOUBLES;
        }

        boolean hasCell(int r, int i) {
            return i >= 0 && i < sizes[r];
        }

        boolean hasCells(int r, int i, int n) {
            return i >= 0 && n >= 0 && i <= sizes[r] - n;
        }

        boolean isTrue(int r, int i) {
            return forms[r] == TRUTHS && i >= 0 && i < sizes[r] && cells[r * CELLS + i] != 0;
        }

        int missing() {
            int missing = 0;
            for (int r = 0; r < ROWS; r++) {
                if (isMissing(r)) {
                    missing++;
                }
            }
            return missing;
        }

        /** GONE, OUTSIDE, or NONE: the cell may be read and written. */
        int faultAt(int r, int place) {
            if (forms[r] < SHORTS || forms[r] > DOUBLES) {
                return GONE;
            }
            return place >= 0 && place < sizes[r] ? NONE : OUTSIDE;
        }

        /** The form in which a statement's operation is done; its references have no fault. */
        int widthOf(Statement told) {
            if (told.isOfIntsAlways()) {
                return INTS;
            }
            int widest = INTS;
            for (int which = 0; which < REFERENCES; which++) {
                Reference reference = told.references[which];
                if (told.looksAt(which) && !reference.isConstant()) {
                    widest = Math.max(widest, forms[reference.row]);
                }
            }
            return widest;
        }

        boolean alike(Rows others) {
            for (int at = 0; at < ROWS * CELLS; at++) {
                if (cells[at] != others.cells[at]) {
                    return false;
                }
            }
            return true;
        }
    }

    /** Where a statement reads or writes; to row NONE it is a constant. */
    private static final class Reference {
        int row;
        int from;
        int by;
        int step;

        void lie(int newFrom, int newBy, int newStep) {
            from = newFrom;
            by = newBy;
            step = newStep;
        }

        boolean isConstant() {
            return row == NONE;
        }

        int at(int turn, int item) {
            return from + by * turn + step * item;
        }

        boolean liesAs(Reference another) {
            return row == another.row && from == another.from && by == another.by && step == another.step;
        }
    }

    private static final class Statement {
        final Reference[] references = {new Reference(), new Reference(), new Reference()};
        int operation;
        int items;
        int period = 1;
        int phase;
        int maskRow;

        void begin(int newOperation, int count) {
            operation = newOperation;
            items = count;
            period = 1;
            phase = 0;
            maskRow = NONE;
            for (int which = 0; which < REFERENCES; which++) {
                references[which].row = which == TARGET ? 0 : NONE;
                references[which].lie(0, 0, 0);
            }
        }

        boolean looksAt(int which) {
            return which != RIGHT || operation != COPY;
        }

        boolean looksAtRow(int r) {
            for (int which = 0; which < REFERENCES; which++) {
                if (looksAt(which) && references[which].row == r) {
                    return true;
                }
            }
            return false;
        }

        boolean isOfIntsAlways() {
            return operation >= AND && operation <= XOR || mayBeOver();
        }

        boolean mayBeOver() {
            return operation == SURE_SUM || operation == SURE_PRODUCT;
        }

        boolean isDone(int turn, Rows rows) {
            return turn % period == phase && (maskRow == NONE || rows.isTrue(maskRow, turn));
        }
    }

    private static final class Loop {
        final Statement[] statements = {
            new Statement(), new Statement(), new Statement(), new Statement(), new Statement()};
        int turnCount;
        int statementCount;

        int turnsDone(Statement told, Rows rows) {
            int done = 0;
            for (int i = 0; i < turnCount; i++) {
                if (told.isDone(i, rows)) {
                    done++;
                }
            }
            return done;
        }

        /** The first statement done in a turn, from a given one on. */
        int nextDone(int turn, int from, Rows rows) {
            for (int k = from; k < statementCount; k++) {
                if (statements[k].isDone(turn, rows)) {
                    return k;
                }
            }
            return NONE;
        }
    }

    /** What was told of the loop last, with what it was before; a ring, in which the oldest is lost. */
    private static final class History {
        private static final int MOST = 20, WIDE = 6;
        private final int[][] told = new int[MOST][WIDE];
        private int oldest;
        int held;

        void note(int act, int k, int which) {
            if (held == MOST) {
                oldest = (oldest + 1) % MOST;
            } else {
                held++;
            }
            int[] latest = latest();
            latest[0] = act;
            latest[1] = k;
            latest[2] = which;
        }

        void keep(int a, int b, int c) {
            int[] latest = latest();
            latest[3] = a;
            latest[4] = b;
            latest[5] = c;
        }

        /** Asked only while something is held. */
        private int[] latest() {
            return told[(oldest + held + MOST - 1) % MOST];
        }

        int takeBack(Loop loop) {
            int[] latest = latest();
            held--;
            switch (latest[0]) {
                case TOLD_TURNS:
                    loop.turnCount = latest[3];
                    break;
                case TOLD_STATEMENT:
                    loop.statementCount = latest[1];
                    break;
                case TOLD_REFER:
                    loop.statements[latest[1]].references[latest[2]].row = latest[3];
                    break;
                case TOLD_PLACE:
                    loop.statements[latest[1]].references[latest[2]].lie(latest[3], latest[4], latest[5]);
                    break;
                case TOLD_GUARD:
                    loop.statements[latest[1]].period = latest[3];
                    loop.statements[latest[1]].phase = latest[4];
                    break;
                default:
                    loop.statements[latest[1]].maskRow = latest[3];
                    break;
            }
            return latest[0];
        }
    }

    /** Places one behind another by a stride. */
    private static final class Section {
        int first;
        int stride;
        int length;

        void lay(Reference reference, int turn, int items) {
            int start = reference.at(turn, 0);
            int end = reference.at(turn, items - 1);
            boolean alone = start == end;
            first = Math.min(start, end);
            stride = alone ? 1 : Math.abs(reference.step);
            length = alone ? 1 : items;
        }

        int part(int part, int refusal) {
            switch (part) {
                case 0: return first;
                case 1: return stride;
                case 2: return length;
                default: return refusal;
            }
        }

        void take(Section from) {
            first = from.first;
            stride = from.stride;
            length = from.length;
        }

        boolean liesAs(Section another) {
            return first == another.first && stride == another.stride && length == another.length;
        }

        boolean holds(int place) {
            for (int n = 0; n < length; n++) {
                if (first + n * stride == place) {
                    return true;
                }
            }
            return false;
        }

        void cross(Section a, Section b) {
            first = 0;
            stride = 1;
            length = 0;
            for (int n = 0; n < a.length; n++) {
                int place = a.first + n * a.stride;
                if (b.holds(place)) {
                    addBehind(place);
                }
            }
        }

        private void addBehind(int place) {
            if (length == 0) {
                first = place;
            } else if (length == 1) {
                stride = place - first;
            }
            length++;
        }

        /** Becomes the first piece of a set that is not empty: the cells that are left. */
        int takePiece(int cells) {
            first = leastCell(cells);
            int behind = cells & ~(1 << first);
            stride = behind == 0 ? 1 : leastCell(behind) - first;
            length = 0;
            int left = cells;
            int place = first;
            for (int n = 0; n < CELLS && place < CELLS && (left >> place & 1) != 0; n++) {
                left &= ~(1 << place);
                length++;
                place += stride;
            }
            return left;
        }

        static int leastCell(int cells) {
            int least = 0;
            while (least < CELLS - 1 && (cells >> least & 1) == 0) {
                least++;
            }
            return least;
        }
    }

    /** The unlike sections of a statement to a row, in the order in which they first come. */
    private static final class Kinds {
        private static final int MOST = TURNS * REFERENCES;
        final Section[] sections = new Section[MOST];
        final int[] often = new int[MOST];
        private final Section next = new Section();
        int found;

        Kinds() {
            for (int n = 0; n < MOST; n++) {
                sections[n] = new Section();
            }
        }

        void collect(Loop loop, Rows rows, Statement told, int r) {
            found = 0;
            if (!told.looksAtRow(r)) {
                return;
            }
            for (int i = 0; i < loop.turnCount; i++) {
                if (told.isDone(i, rows)) {
                    addFrom(told, LEFT, r, i);
                    addFrom(told, RIGHT, r, i);
                    addFrom(told, TARGET, r, i);
                }
            }
        }

        private void addFrom(Statement told, int which, int r, int turn) {
            if (!told.looksAt(which) || told.references[which].row != r) {
                return;
            }
            next.lay(told.references[which], turn, told.items);
            int n = 0;
            while (n < found && !sections[n].liesAs(next)) {
                n++;
            }
            if (n == found) {
                sections[n].take(next);
                often[n] = 0;
                found++;
            }
            often[n]++;
        }
    }

    /** What each turn reads and writes, as is known ahead; a set of cells of a row is an int, a bit a cell. */
    private static final class Summary {
        private final Rows rows;
        private final Loop loop;
        private final int[][] sets = new int[SETS][TURNS * ROWS];
        private final int[] settled = new int[ROWS];
        private boolean inDoubt;
        boolean stale = true;

        Summary(Rows newRows, Loop newLoop) {
            rows = newRows;
            loop = newLoop;
        }

        int cellsOf(int set, int r, int turn) {
            if (turn != NONE) {
                return sets[set][turn * ROWS + r];
            }
            int together = 0;
            for (int i = 0; i < loop.turnCount; i++) {
                together |= sets[set][i * ROWS + r];
            }
            return together;
        }

        /** To be asked ahead of all else that is asked here. */
        void refresh() {
            if (!stale) {
                return;
            }
            for (int set = 0; set < SETS; set++) {
                for (int at = 0; at < TURNS * ROWS; at++) {
                    sets[set][at] = 0;
                }
            }
            for (int i = 0; i < loop.turnCount; i++) {
                addTurn(i);
            }
            stale = false;
        }

        private void addTurn(int turn) {
            for (int r = 0; r < ROWS; r++) {
                settled[r] = 0;
            }
            inDoubt = false;
            for (int k = 0; k < loop.statementCount; k++) {
                Statement told = loop.statements[k];
                int items = told.isDone(turn, rows) ? told.items : 0;
                inDoubt |= items > 0 && told.mayBeOver();
                for (int item = 0; item < items; item++) {
                    if (!addItem(told, turn, item)) {
                        return;
                    }
                }
            }
        }

        /** Whether the item has no fault that is known ahead. */
        private boolean addItem(Statement told, int turn, int item) {
            for (int which = LEFT; which < REFERENCES; which++) {
                Reference reference = told.references[which];
                int place = reference.at(turn, item);
                if (told.looksAt(which) && !reference.isConstant()) {
                    if (rows.faultAt(reference.row, place) != NONE) {
                        return false;
                    }
                    addRead(reference.row, turn, 1 << place);
                }
            }
            Reference target = told.references[TARGET];
            int place = target.at(turn, item);
            if (rows.faultAt(target.row, place) != NONE) {
                return false;
            }
            addWrite(told, turn, 1 << place);
            return true;
        }

        private void addRead(int r, int turn, int cell) {
            sets[READ][turn * ROWS + r] |= cell;
            sets[EXPOSED][turn * ROWS + r] |= cell & ~settled[r];
        }

        private void addWrite(Statement told, int turn, int cell) {
            int r = told.references[TARGET].row;
            sets[WRITTEN][turn * ROWS + r] |= cell;
            if (told.operation != PICK) {
                settled[r] |= cell;
                if (!inDoubt) {
                    sets[SURE][turn * ROWS + r] |= cell;
                }
            }
        }

        /** The verdict of a row, were it of a form; whether it is of numbers is not in question. */
        int judge(int r, int form) {
            if (cellsOf(WRITTEN, r, NONE) == 0) {
                return READ_ONLY;
            }
            if (isShared(r)) {
                return SHARED;
            }
            if (isGathered(r, form)) {
                return GATHERED;
            }
            return exposedTurn(r) == NONE ? COPIED : SERIAL;
        }

        private boolean isShared(int r) {
            int read = 0;
            int written = 0;
            for (int i = 0; i < loop.turnCount; i++) {
                int nowRead = sets[READ][i * ROWS + r];
                int nowWritten = sets[WRITTEN][i * ROWS + r];
                if ((nowWritten & (read | written)) != 0 || (nowRead & written) != 0) {
                    return false;
                }
                read |= nowRead;
                written |= nowWritten;
            }
            return true;
        }

        private boolean isGathered(int r, int form) {
            int family = 0;
            for (int k = 0; k < loop.statementCount; k++) {
                Statement told = loop.statements[k];
                if (told.looksAtRow(r)) {
                    int own = told.references[TARGET].row == r ? familyOf(told, form) : 0;
                    if (own == 0 || family != 0 && own != family) {
                        return false;
                    }
                    family = own;
                }
            }
            return family != 0;
        }

        /** The family by which a statement gathers, were its target of a form; 0: it does not. */
        int familyOf(Statement told, int form) {
            Reference target = told.references[TARGET];
            Reference right = told.references[RIGHT];
            if (!within(form, SHORTS, DOUBLES) || !told.references[LEFT].liesAs(target) || right.row == target.row) {
                return 0;
            }
            if (right.isConstant()) {
                return familyFor(told.operation, form, SHORTS);
            }
            return rows.isOfNumbers(right.row) ? familyFor(told.operation, form, rows.forms[right.row]) : 0;
        }

        private static int familyFor(int operation, int form, int rightForm) {
            if (operation == MAX || operation == MIN) {
                if (rightForm > form) {
                    return 0;
                }
                return operation == MAX ? 3 : 4;
            }
            if (form > INTS || rightForm > INTS) {
                return 0;
            }
            switch (operation) {
                case ADD:
                case SUB: return 1;
                case MUL: return 2;
                case AND: return 5;
                case OR: return 6;
                case XOR: return 7;
                default: return 0;
            }
        }

        /** The least turn with an exposed cell that is written in an earlier one. */
        int exposedTurn(int r) {
            int written = 0;
            for (int i = 0; i < loop.turnCount; i++) {
                if ((sets[EXPOSED][i * ROWS + r] & written) != 0) {
                    return i;
                }
                written |= sets[WRITTEN][i * ROWS + r];
            }
            return NONE;
        }

        int exposedCell(int r, int later) {
            int written = 0;
            for (int i = 0; i < later; i++) {
                written |= sets[WRITTEN][i * ROWS + r];
            }
            return Section.leastCell(sets[EXPOSED][later * ROWS + r] & written);
        }

        /** The last turn ahead of a given one that has a cell in a set. */
        int lastTurn(int set, int r, int cell, int ahead) {
            for (int i = ahead - 1; i >= 0; i--) {
                if ((sets[set][i * ROWS + r] >> cell & 1) != 0) {
                    return i;
                }
            }
            return NONE;
        }
    }

    /** What is told of a run. */
    private static final class Outcome {
        final int[] faulted = new int[FAULTS];
        final int[] order = new int[TURNS];
        int endings;
        int items;

        void begin() {
            items = 0;
            endings = 0;
            for (int kind = 0; kind < FAULTS; kind++) {
                faulted[kind] = 0;
            }
        }

        void end(int turn) {
            if (endings < TURNS) {
                order[endings++] = turn;
            }
        }

        boolean alike(Outcome another) {
            for (int kind = 0; kind < FAULTS; kind++) {
                if (faulted[kind] != another.faulted[kind]) {
                    return false;
                }
            }
            return items == another.items;
        }
    }

    /** Runs the loop by workers; a run in order is that of one worker, over rows as they are. */
    private static final class Runner {
        private static final int MOST_STEPS = TURNS * STATEMENTS * ITEMS;
        private final Loop loop;
        private final int[] treatment = new int[ROWS];
        private final double[] copies = new double[TURNS * ROWS * CELLS];
        private final int[] copied = new int[TURNS * ROWS];
        private final int[] turnAt = new int[WORKERS];
        private final int[] statementAt = new int[WORKERS];
        private final int[] itemAt = new int[WORKERS];
        private Rows rows;
        private Outcome outcome;
        private int workers = 1;
        private int deal;

        Runner(Loop newLoop) {
            loop = newLoop;
        }

        void treatAsTheyAre() {
            for (int r = 0; r < ROWS; r++) {
                treatment[r] = SHARED;
            }
        }

        void treatByVerdict(Summary summary) {
            summary.refresh();
            for (int r = 0; r < ROWS; r++) {
                treatment[r] = summary.judge(r, summary.rows.forms[r]);
            }
        }

        void go(Rows over, Outcome into, int newWorkers, int newDeal, int firstSeed) {
            begin(over, into, newWorkers, newDeal);
            int seed = firstSeed;
            int busy = busyWorkers();
            for (int steps = 0; steps < MOST_STEPS && busy > 0; steps++) {
                step(busyWorker(seed % busy));
                seed = (13 * seed + 7) % SEEDS;
                busy = busyWorkers();
            }
            copyOut();
        }

        private void begin(Rows over, Outcome into, int newWorkers, int newDeal) {
            rows = over;
            outcome = into;
            workers = newWorkers;
            deal = newDeal;
            rows.forgetWriters();
            outcome.begin();
            for (int at = 0; at < TURNS * ROWS; at++) {
                copied[at] = 0;
            }
            for (int worker = 0; worker < workers; worker++) {
                enter(worker, deal == 2 ? loop.turnCount - 1 : 0);
            }
        }

        /** A worker comes to the first of its turns, from a given one on, in which something is done. */
        private void enter(int worker, int from) {
            int way = deal == 2 ? -1 : 1;
            turnAt[worker] = NONE;
            for (int turn = from; turn >= 0 && turn < loop.turnCount; turn += way) {
                int k = workerOf(turn) == worker ? loop.nextDone(turn, 0, rows) : NONE;
                if (k != NONE) {
                    turnAt[worker] = turn;
                    statementAt[worker] = k;
                    itemAt[worker] = 0;
                    return;
                }
            }
        }

        private int workerOf(int turn) {
            if (deal != 1) {
                return turn % workers;
            }
            int share = (loop.turnCount + workers - 1) / workers;
            return share == 0 ? 0 : turn / share;
        }

        private int busyWorkers() {
            int busy = 0;
            for (int worker = 0; worker < workers; worker++) {
                if (turnAt[worker] != NONE) {
                    busy++;
                }
            }
            return busy;
        }

        private int busyWorker(int number) {
            int ahead = number;
            for (int worker = 0; worker < workers; worker++) {
                if (turnAt[worker] != NONE && ahead-- == 0) {
                    return worker;
                }
            }
            return 0;
        }

        private void step(int worker) {
            int turn = turnAt[worker];
            Statement told = loop.statements[statementAt[worker]];
            int fault = doItem(told, turn, itemAt[worker]);
            if (fault != NONE) {
                outcome.faulted[fault]++;
                statementAt[worker] = NONE;
            } else {
                outcome.items++;
                goOn(worker, told, turn);
            }
            if (statementAt[worker] == NONE) {
                outcome.end(turn);
                enter(worker, deal == 2 ? turn - 1 : turn + 1);
            }
        }

        private void goOn(int worker, Statement told, int turn) {
            itemAt[worker]++;
            if (itemAt[worker] == told.items) {
                itemAt[worker] = 0;
                statementAt[worker] = loop.nextDone(turn, statementAt[worker] + 1, rows);
            }
        }

        /** The fault that ends the turn, or NONE. */
        private int doItem(Statement told, int turn, int item) {
            int fault = faultOf(told, turn, item);
            if (fault != NONE) {
                return fault;
            }
            int width = rows.widthOf(told);
            double left = Numbers.cast(width, read(told, LEFT, turn, item));
            double right = Numbers.cast(width, read(told, RIGHT, turn, item));
            if (told.mayBeOver() && Numbers.isOver(told.operation, (int) left, (int) right)) {
                return OVER;
            }
            if (told.operation != PICK || left > right) {
                write(told.references[TARGET], turn, item, Numbers.calculate(told.operation, width, left, right));
            }
            return NONE;
        }

        private int faultOf(Statement told, int turn, int item) {
            for (int which = LEFT; which < REFERENCES; which++) {
                Reference reference = told.references[which];
                if (told.looksAt(which) && !reference.isConstant()) {
                    int fault = rows.faultAt(reference.row, reference.at(turn, item));
                    if (fault != NONE) {
                        return fault;
                    }
                }
            }
            Reference target = told.references[TARGET];
            return rows.faultAt(target.row, target.at(turn, item));
        }

        /** What is not looked at is read as 0. */
        private double read(Statement told, int which, int turn, int item) {
            Reference reference = told.references[which];
            if (!told.looksAt(which)) {
                return 0;
            }
            if (reference.isConstant()) {
                return reference.from;
            }
            int r = reference.row;
            int i = reference.at(turn, item);
            if ((copied[turn * ROWS + r] >> i & 1) != 0) {
                return copies[(turn * ROWS + r) * CELLS + i];
            }
            return rows.cells[r * CELLS + i];
        }

        private void write(Reference target, int turn, int item, double value) {
            int r = target.row;
            int i = target.at(turn, item);
            double kept = Numbers.cast(rows.forms[r], value);
            if (treatment[r] == COPIED) {
                copied[turn * ROWS + r] |= 1 << i;
                copies[(turn * ROWS + r) * CELLS + i] = kept;
                return;
            }
            int at = r * CELLS + i;
            rows.cells[at] = kept;
            rows.writers[at] = treatment[r] == GATHERED ? Math.max(rows.writers[at], turn) : turn;
        }

        /** By turns, so that what the greatest of them wrote stays. */
        private void copyOut() {
            for (int turn = 0; turn < loop.turnCount; turn++) {
                for (int r = 0; r < ROWS; r++) {
                    copyOutRow(turn, r);
                }
            }
        }

        private void copyOutRow(int turn, int r) {
            int written = copied[turn * ROWS + r];
            for (int i = 0; written >> i != 0 && i < CELLS; i++) {
                if ((written >> i & 1) != 0) {
                    rows.cells[r * CELLS + i] = copies[(turn * ROWS + r) * CELLS + i];
                    rows.writers[r * CELLS + i] = turn;
                }
            }
        }
    }

    /** Numbers of every form, held as doubles that are neither -0.0, nor infinite, nor NaN. */
    private static final class Numbers {
        private static final int MODULUS = 1024;
        /** From the least double above 0 to the greatest double it is not so many doublings. */
        private static final int MOST_DOUBLINGS = 2200;

        /** What a number told for a cell of a form is. */
        static double told(int form, int v) {
            switch (form) {
                case SHORTS: return (short) v;
                case INTS: return v;
                case FLOATS: return (float) v / 8;
                case DOUBLES: return (double) v / 8;
                default: return v & 1;
            }
        }

        /** As which number a cell of a form is told. */
        static long shown(int form, double value) {
            switch (form) {
                case FLOATS: return bits(value, -126, 23) + (value < 0 ? Integer.MIN_VALUE : 0);
                case DOUBLES: return bits(value, -1022, 52) + (value < 0 ? Long.MIN_VALUE : 0);
                default: return (long) value;
            }
        }

        /** Exponent and fraction, as the floating-point forms of that least exponent hold them. */
        private static long bits(double value, int leastExponent, int fractionBits) {
            if (value == 0) {
                return 0;
            }
            double size = sizeOf(value);
            int exponent = 0;
            for (; exponent < MOST_DOUBLINGS && size >= 2; exponent++) {
                size /= 2;
            }
            for (; exponent > leastExponent && size < 1; exponent--) {
                size *= 2;
            }
            // the leading 1 of the fraction carries into the exponent, and is not there below the least one
            long fraction = (long) (size * (1L << fractionBits));
            return ((long) (exponent - leastExponent) << fractionBits) + fraction;
        }

        static double cast(int form, double value) {
            switch (form) {
                case SHORTS: return (short) (int) value;
                case INTS: return (int) value;
                case FLOATS: return plain((float) value);
                default: return value;
            }
        }

        private static double plain(double value) {
            return value == 0 ? 0 : value;
        }

        private static double sizeOf(double value) {
            return value < 0 ? -value : value;
        }

        static boolean isOver(int operation, int left, int right) {
            long exact = operation == SURE_SUM ? (long) left + right : (long) left * right;
            return exact != (int) exact;
        }

        /** Left and right are cast to the width. */
        static double calculate(int operation, int width, double left, double right) {
            switch (operation) {
                case MAX: return left >= right ? left : right;
                case MIN: return left <= right ? left : right;
                case COPY:
                case PICK: return left;
                default: break;
            }
            if (width == INTS) {
                return calculateInts(operation, (int) left, (int) right);
            }
            if (operation == REM) {
                return right == 0 ? 0 : remainder(left, right);
            }
            return remainder(width == FLOATS ? calculateFloats(operation, (float) left, (float) right)
                    : calculateDoubles(operation, left, right), MODULUS);
        }

        private static int calculateInts(int operation, int left, int right) {
            switch (operation) {
                case ADD:
                case SURE_SUM: return left + right;
                case SUB: return left - right;
                case REM: return right == 0 ? 0 : left % right;
                case AND: return left & right;
                case OR: return left | right;
                case XOR: return left ^ right;
                default: return left * right;
            }
        }

        private static float calculateFloats(int operation, float left, float right) {
            switch (operation) {
                case ADD: return left + right;
                case SUB: return left - right;
                default: return left * right;
            }
        }

        private static double calculateDoubles(int operation, double left, double right) {
            switch (operation) {
                case ADD: return left + right;
                case SUB: return left - right;
                default: return left * right;
            }
        }

        /** Java's remainder of a division by something else than 0, by steps that are all exact. */
        private static double remainder(double dividend, double divisor) {
            double rest = sizeOf(dividend);
            double part = sizeOf(divisor);
            int doublings = 0;
            for (; doublings < MOST_DOUBLINGS && part <= rest; doublings++) {
                part *= 2;
            }
            for (; doublings > 0; doublings--) {
                part /= 2;
                if (rest >= part) {
                    rest -= part;
                }
            }
            return plain(dividend < 0 ? -rest : rest);
        }
    }
}
