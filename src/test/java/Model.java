import java.math.BigDecimal;
import java.util.ArrayDeque;
import java.util.ArrayList;
import java.util.Arrays;
import java.util.List;
import java.util.TreeMap;
import java.util.TreeSet;

/**
 * The document once more, written another way and with the whole Java library, so that ModelTest can
 * compare the class with it: sets are sets of numbers, what may be undone are whole loops, cells are
 * boxed numbers of their own form.
 */
final class Model {
    static final String[] NAMES = {
        "add", "sub", "mul", "rem", "max", "min", "and", "or", "xor", "copy", "pick", "sure", "times"};
    static final int NONE = -1, BAD = -2, NOT = -3, FULL = -4, LEAST = Integer.MIN_VALUE;

    static final class Row {
        int form;
        Number[] cells;
        int[] writers;

        Row(int form, int n) {
            this.form = form;
            cells = new Number[n];
            writers = new int[n];
            Arrays.fill(cells, zero(form));
            Arrays.fill(writers, NONE);
        }

        Row twin() {
            Row twin = new Row(form, cells.length);
            twin.cells = cells.clone();
            twin.writers = writers.clone();
            return twin;
        }
    }

    static final class Told {
        int operation, count, period = 1, phase = 0, mask = NONE;
        int[][] refs = {{0, 0, 0, 0}, {NONE, 0, 0, 0}, {NONE, 0, 0, 0}};

        Told twin() {
            Told twin = new Told();
            twin.operation = operation;
            twin.count = count;
            twin.period = period;
            twin.phase = phase;
            twin.mask = mask;
            for (int w = 0; w < 3; w++) {
                twin.refs[w] = refs[w].clone();
            }
            return twin;
        }

        String name() {
            return NAMES[operation];
        }
    }

    static final class Past {
        int act;
        int turns;
        List<Told> statements = new ArrayList<>();
    }

    static final class Result {
        int items;
        int[] faults = new int[3];
        List<Integer> ended = new ArrayList<>();
    }

    Row[] rows = new Row[6];
    int n = 0;
    List<Told> statements = new ArrayList<>();
    ArrayDeque<Past> past = new ArrayDeque<>();
    List<Integer> text = new ArrayList<>();
    int finding = 0;
    Result latest = new Result();

    static Number zero(int form) {
        switch (form) {
            case 0: return (short) 0;
            case 1: return 0;
            case 2: return 0f;
            case 3: return 0d;
            default: return (byte) 0;
        }
    }

    int found(int number) {
        finding = number;
        return -10 - number;
    }

    static boolean in(int v, int a, int b) {
        return a <= v && v <= b;
    }

    boolean numbers(int r) {
        return rows[r] != null && rows[r].form != 4;
    }

    // ---- rows

    int row(int r, int form, int size) {
        if (!in(r, 0, 5) || !in(form, 0, 4) || size > 24) return BAD;
        if (size < 0) return found(5);
        rows[r] = new Row(form, size);
        return size;
    }

    int lose(int r) {
        if (!in(r, 0, 5)) return BAD;
        if (rows[r] == null) return found(1);
        int size = rows[r].cells.length;
        rows[r] = null;
        return size;
    }

    int put(int r, int form, int i, int v) {
        if (!in(r, 0, 5) || !in(form, 0, 4)) return BAD;
        if (rows[r] == null) return found(1);
        if (rows[r].form != form) return found(3);
        if (!in(i, 0, rows[r].cells.length - 1)) return found(2);
        Number cell;
        if (form == 0) cell = (short) v;
        else if (form == 1) cell = v;
        else if (form == 2) cell = (float) (v / 8.0);
        else if (form == 3) cell = v / 8.0;
        else cell = (byte) Math.abs(v % 2);
        rows[r].cells[i] = cell;
        return 1;
    }

    long get(int r, int i) {
        if (!in(r, 0, 5)) return Long.MIN_VALUE + 2;
        if (rows[r] == null) {
            found(1);
            return Long.MIN_VALUE + 11;
        }
        if (!in(i, 0, rows[r].cells.length - 1)) {
            found(2);
            return Long.MIN_VALUE + 12;
        }
        Number cell = rows[r].cells[i];
        if (cell instanceof Float) return Float.floatToIntBits(cell.floatValue());
        if (cell instanceof Double) return Double.doubleToLongBits(cell.doubleValue());
        return cell.longValue();
    }

    int copy(int r, int i, int t, int j, int many) {
        if (!in(r, 0, 5) || !in(t, 0, 5)) return BAD;
        if (rows[r] == null || rows[t] == null) return found(1);
        if (rows[r].form != rows[t].form) return found(4);
        if (i < 0 || j < 0 || many < 0 || (long) i + many > rows[r].cells.length
                || (long) j + many > rows[t].cells.length) return found(2);
        Number[] were = rows[r].cells.clone();
        for (int c = 0; c < many; c++) rows[t].cells[j + c] = were[i + c];
        return 1;
    }

    // ---- the loop

    void remember(int act) {
        Past p = new Past();
        p.act = act;
        p.turns = n;
        for (Told s : statements) p.statements.add(s.twin());
        past.addLast(p);
        if (past.size() > 20) past.removeFirst();
    }

    int turns(int many) {
        if (!in(many, 0, 10)) return BAD;
        int was = n;
        remember(0);
        n = many;
        return was;
    }

    int type(int b) {
        if (!in(b, 0, 255)) return BAD;
        if (text.size() == 5) return FULL;
        text.add(b);
        return text.size();
    }

    int wipe() {
        int had = text.size();
        text.clear();
        return had;
    }

    int statement(int count) {
        if (!in(count, 1, 5)) return BAD;
        StringBuilder name = new StringBuilder();
        for (int b : text) name.append((char) b);
        int operation = Arrays.asList(NAMES).indexOf(name.toString());
        if (operation < 0) return NOT;
        if (statements.size() == 5) return FULL;
        remember(1);
        Told s = new Told();
        s.operation = operation;
        s.count = count;
        statements.add(s);
        text.clear();
        return statements.size() - 1;
    }

    boolean isRef(int k, int which) {
        return in(k, 0, statements.size() - 1) && in(which, 0, 2);
    }

    int refer(int k, int which, int r) {
        if (!isRef(k, which) || !in(r, -1, 5) || which == 0 && r == NONE) return BAD;
        remember(2);
        int was = statements.get(k).refs[which][0];
        statements.get(k).refs[which][0] = r;
        return was;
    }

    int place(int k, int which, int from, int by, int step) {
        if (!isRef(k, which) || !in(from, -60, 60) || !in(by, -6, 6) || !in(step, -6, 6)) return BAD;
        remember(3);
        int[] ref = statements.get(k).refs[which];
        ref[1] = from;
        ref[2] = by;
        ref[3] = step;
        return 1;
    }

    int guard(int k, int period, int phase) {
        if (!in(k, 0, statements.size() - 1) || !in(period, 1, 6) || phase < 0 || phase >= period) return BAD;
        remember(4);
        statements.get(k).period = period;
        statements.get(k).phase = phase;
        return 1;
    }

    int mask(int k, int r) {
        if (!in(k, 0, statements.size() - 1) || !in(r, -1, 5)) return BAD;
        remember(5);
        int was = statements.get(k).mask;
        statements.get(k).mask = r;
        return was;
    }

    int undo() {
        if (past.isEmpty()) return NOT;
        Past p = past.removeLast();
        n = p.turns;
        statements = p.statements;
        return p.act;
    }

    int info(int k, int what) {
        if (!in(k, 0, statements.size() - 1)) return BAD;
        Told s = statements.get(k);
        int done = 0;
        for (int i = 0; i < n; i++) if (done(s, i)) done++;
        int[] all = {s.operation, s.count, s.period, s.phase, s.mask, family(s, formOf(s.refs[0][0])), done};
        return in(what, 0, 6) ? all[what] : BAD;
    }

    int reference(int k, int which, int what) {
        return isRef(k, which) && in(what, 0, 3) ? statements.get(k).refs[which][what] : LEAST;
    }

    int formOf(int r) {
        return rows[r] == null ? NONE : rows[r].form;
    }

    boolean done(Told s, int i) {
        if (i % s.period != s.phase) return false;
        if (s.mask == NONE) return true;
        Row m = rows[s.mask];
        return m != null && m.form == 4 && i < m.cells.length && m.cells[i].intValue() == 1;
    }

    static int placeOf(int[] ref, int i, int j) {
        return ref[1] + ref[2] * i + ref[3] * j;
    }

    // ---- sections

    static TreeSet<Integer> places(Told s, int which, int i) {
        TreeSet<Integer> all = new TreeSet<>();
        for (int j = 0; j < s.count; j++) all.add(placeOf(s.refs[which], i, j));
        return all;
    }

    static int partOf(TreeSet<Integer> all, int part) {
        if (part == 0) return all.isEmpty() ? 0 : all.first();
        if (part == 1) return all.size() < 2 ? 1 : all.higher(all.first()) - all.first();
        return all.size();
    }

    boolean hasSection(int e, int i) {
        return e >= 0 && e < 3 * statements.size() && in(i, 0, n - 1) && statements.get(e / 3).refs[e % 3][0] != NONE;
    }

    int section(int e, int i, int part) {
        if (!hasSection(e, i) || !in(part, 0, 2)) return LEAST;
        return partOf(places(statements.get(e / 3), e % 3, i), part);
    }

    int meet(int e, int i, int g, int h, int part) {
        if (!hasSection(e, i) || !hasSection(g, h) || !in(part, 0, 3)) return LEAST;
        TreeSet<Integer> a = places(statements.get(e / 3), e % 3, i);
        int had = a.size();
        a.retainAll(places(statements.get(g / 3), g % 3, h));
        return part == 3 ? had - a.size() : partOf(a, part);
    }

    static boolean looked(Told s, int which) {
        return !(which == 2 && s.name().equals("copy"));
    }

    List<TreeSet<Integer>> allOf(Told s, int r) {
        List<TreeSet<Integer>> all = new ArrayList<>();
        for (int i = 0; i < n; i++) {
            if (done(s, i)) {
                for (int which : new int[] {1, 2, 0}) {
                    if (looked(s, which) && s.refs[which][0] == r) all.add(places(s, which, i));
                }
            }
        }
        return all;
    }

    int kinds(int k, int r) {
        if (!in(k, 0, statements.size() - 1) || !in(r, 0, 5)) return BAD;
        return (int) allOf(statements.get(k), r).stream().distinct().count();
    }

    int kind(int k, int r, int number, int part) {
        if (!in(k, 0, statements.size() - 1) || !in(r, 0, 5) || !in(part, 0, 3)) return LEAST;
        List<TreeSet<Integer>> all = allOf(statements.get(k), r);
        List<TreeSet<Integer>> unlike = all.stream().distinct().toList();
        if (!in(number, 0, unlike.size() - 1)) return LEAST;
        TreeSet<Integer> it = unlike.get(number);
        return part == 3 ? (int) all.stream().filter(it::equals).count() : partOf(it, part);
    }

    // ---- sets

    TreeSet<Integer> set(int which, int r, int i) {
        TreeSet<Integer> all = new TreeSet<>();
        if (i == NONE) {
            for (int t = 0; t < n; t++) all.addAll(set(which, r, t));
            return all;
        }
        TreeSet<Integer> settled = new TreeSet<>();
        boolean doubtful = false;
        for (Told s : statements) {
            if (!done(s, i)) continue;
            for (int j = 0; j < s.count; j++) {
                for (int w : new int[] {1, 2, 0}) {
                    if (!looked(s, w) || s.refs[w][0] == NONE) continue;
                    int at = placeOf(s.refs[w], i, j);
                    if (!numbers(s.refs[w][0]) || !in(at, 0, rows[s.refs[w][0]].cells.length - 1)) return all;
                    if (s.refs[w][0] != r || w == 0) continue;
                    if (which == 0 || which == 3 && !settled.contains(at)) all.add(at);
                }
                boolean pick = s.name().equals("pick");
                if (s.name().equals("sure") || s.name().equals("times")) doubtful = true;
                if (s.refs[0][0] != r) continue;
                int at = placeOf(s.refs[0], i, j);
                if (which == 1 || which == 2 && !pick && !doubtful) all.add(at);
                if (!pick) settled.add(at);
            }
        }
        return all;
    }

    boolean isSet(int set, int r, int i) {
        return in(set, 0, 3) && in(r, 0, 5) && in(i, -1, n - 1);
    }

    int many(int set, int r, int i) {
        return isSet(set, r, i) ? set(set, r, i).size() : BAD;
    }

    static List<int[]> cut(TreeSet<Integer> cells) {
        List<int[]> all = new ArrayList<>();
        while (!cells.isEmpty()) {
            int first = cells.pollFirst();
            int stride = cells.isEmpty() ? 1 : cells.first() - first;
            int many = 1;
            while (cells.remove(first + many * stride)) many++;
            all.add(new int[] {first, stride, many});
        }
        return all;
    }

    int pieces(int set, int r, int i) {
        return isSet(set, r, i) ? cut(set(set, r, i)).size() : BAD;
    }

    int piece(int set, int r, int i, int p, int part) {
        if (!isSet(set, r, i) || !in(part, 0, 2)) return BAD;
        List<int[]> all = cut(set(set, r, i));
        return in(p, 0, all.size() - 1) ? all.get(p)[part] : BAD;
    }

    int family(Told s, int form) {
        int[] t = s.refs[0];
        if (!Arrays.equals(t, s.refs[1]) || !in(form, 0, 3)) return 0;
        int right = s.refs[2][0];
        if (right == t[0] || right != NONE && !numbers(right)) return 0;
        boolean rightReal = right != NONE && rows[right].form >= 2;
        boolean rightInts = right != NONE && rows[right].form == 1;
        boolean rightDoubles = right != NONE && rows[right].form == 3;
        if (form < 2) {
            if (rightReal) return 0;
            switch (s.name()) {
                case "add": case "sub": return 1;
                case "mul": return 2;
                case "and": return 5;
                case "or": return 6;
                case "xor": return 7;
                case "max": return form == 0 && rightInts ? 0 : 3;
                case "min": return form == 0 && rightInts ? 0 : 4;
                default: return 0;
            }
        }
        if (form == 2 && rightDoubles) return 0;
        return s.name().equals("max") ? 3 : s.name().equals("min") ? 4 : 0;
    }

    static boolean meetAny(TreeSet<Integer> a, TreeSet<Integer> b) {
        TreeSet<Integer> both = new TreeSet<>(a);
        both.retainAll(b);
        return !both.isEmpty();
    }

    int judge(int r, int form) {
        List<TreeSet<Integer>> written = new ArrayList<>();
        List<TreeSet<Integer>> touched = new ArrayList<>();
        boolean any = false;
        for (int i = 0; i < n; i++) {
            written.add(set(1, r, i));
            any |= !written.get(i).isEmpty();
            TreeSet<Integer> touch = set(0, r, i);
            touch.addAll(written.get(i));
            touched.add(touch);
        }
        if (!any) return 0;
        boolean shared = true;
        for (int i = 0; i < n; i++) {
            for (int h = 0; h < n; h++) if (i != h && meetAny(written.get(i), touched.get(h))) shared = false;
        }
        if (shared) return 1;
        TreeSet<Integer> families = new TreeSet<>();
        for (Told s : statements) {
            boolean refers = false;
            for (int w = 0; w < 3; w++) refers |= looked(s, w) && s.refs[w][0] == r;
            if (refers) families.add(s.refs[0][0] == r && s.refs[1][0] == r ? family(s, form) : 0);
        }
        if (families.size() == 1 && families.first() != 0) return 2;
        return witness(r, 1) == NONE ? 3 : 4;
    }

    int verdict(int r) {
        return in(r, 0, 5) ? judge(r, formOf(r)) : BAD;
    }

    int would(int r, int form) {
        if (!in(r, 0, 5) || !in(form, 0, 3)) return BAD;
        if (rows[r] == null) return found(1);
        return rows[r].form == 4 ? NOT : judge(r, form);
    }

    int witness(int r, int part) {
        if (!in(r, 0, 5) || !in(part, 0, 2)) return BAD;
        for (int later = 0; later < n; later++) {
            for (int c : set(3, r, later)) {
                for (int earlier = later - 1; earlier >= 0; earlier--) {
                    if (set(1, r, earlier).contains(c)) return new int[] {earlier, later, c}[part];
                }
            }
        }
        return NONE;
    }

    int last(int set, int r, int c) {
        if (!in(set, 1, 2) || !in(r, 0, 5) || !in(c, 0, 23)) return BAD;
        for (int i = n - 1; i >= 0; i--) if (set(set, r, i).contains(c)) return i;
        return NONE;
    }

    // ---- runs

    /** The cells that turns see: their own of rows that are copied. */
    final class World {
        Row[] cells = new Row[6];
        int[] verdicts = new int[6];
        List<TreeMap<Integer, Number>> own = new ArrayList<>();
        Result result = new Result();

        World(boolean byVerdict) {
            for (int r = 0; r < 6; r++) {
                cells[r] = rows[r] == null ? null : rows[r].twin();
                if (cells[r] != null) Arrays.fill(cells[r].writers, NONE);
                verdicts[r] = byVerdict ? verdict(r) : 1;
            }
            for (int i = 0; i < n; i++) own.add(new TreeMap<>());
        }

        Number read(int turn, int r, int c) {
            Number mine = verdicts[r] == 3 ? own.get(turn).get(100 * r + c) : null;
            return mine == null ? cells[r].cells[c] : mine;
        }

        void write(int turn, int r, int c, Number v) {
            if (verdicts[r] == 3) {
                own.get(turn).put(100 * r + c, v);
                return;
            }
            cells[r].cells[c] = v;
            cells[r].writers[c] = verdicts[r] == 2 ? Math.max(turn, cells[r].writers[c]) : turn;
        }

        void close() {
            for (int i = 0; i < n; i++) {
                for (int key : own.get(i).keySet()) {
                    cells[key / 100].cells[key % 100] = own.get(i).get(key);
                    cells[key / 100].writers[key % 100] = i;
                }
            }
        }
    }

    static Number castTo(Number v, int form) {
        boolean real = v instanceof Float || v instanceof Double;
        int whole = v instanceof Float ? (int) v.floatValue() : v instanceof Double ? (int) v.doubleValue() : v.intValue();
        if (form == 0) return (short) whole;
        if (form == 1) return whole;
        if (form == 2) return real ? (float) v.doubleValue() + 0f : (float) whole;
        return real ? v.doubleValue() + 0d : (double) whole;
    }

    /** By whole numbers: an oracle of Java's remainder that leaves the machine's own aside. */
    static double exactRemainder(double a, double b) {
        return new BigDecimal(a).remainder(new BigDecimal(b)).doubleValue();
    }

    /** The fault (0 to 2), or NONE. */
    int item(World world, Told s, int i, int j) {
        Number[] values = {0, 0, 0};
        int widest = 1;
        for (int w : new int[] {1, 2, 0}) {
            if (!looked(s, w)) continue;
            int r = s.refs[w][0];
            if (r == NONE) {
                values[w] = s.refs[w][1];
                continue;
            }
            if (world.cells[r] == null || world.cells[r].form == 4) return 0;
            int at = placeOf(s.refs[w], i, j);
            if (!in(at, 0, world.cells[r].cells.length - 1)) return 1;
            if (w != 0) values[w] = world.read(i, r, at);
            widest = Math.max(widest, world.cells[r].form);
        }
        if (List.of("and", "or", "xor", "sure", "times").contains(s.name())) widest = 1;
        Number result = operate(s.name(), castTo(values[1], widest), castTo(values[2], widest));
        if (result == OVER) return 2;
        int r = s.refs[0][0];
        if (result != null) world.write(i, r, placeOf(s.refs[0], i, j), castTo(result, world.cells[r].form));
        return NONE;
    }

    static final Number OVER = Byte.valueOf((byte) 77);

    /** Both of one form; null: it is not written. */
    static Number operate(String name, Number a, Number b) {
        if (name.equals("copy")) return a;
        if (a instanceof Integer) {
            int p = a.intValue();
            int q = b.intValue();
            switch (name) {
                case "add": return p + q;
                case "sub": return p - q;
                case "mul": return p * q;
                case "rem": return q == 0 ? 0 : p % q;
                case "max": return Math.max(p, q);
                case "min": return Math.min(p, q);
                case "and": return p & q;
                case "or": return p | q;
                case "xor": return p ^ q;
                case "pick": return p > q ? p : null;
                case "sure":
                    try {
                        return Math.addExact(p, q);
                    } catch (ArithmeticException e) {
                        return OVER;
                    }
                default:
                    try {
                        return Math.multiplyExact(p, q);
                    } catch (ArithmeticException e) {
                        return OVER;
                    }
            }
        }
        if (a instanceof Float) {
            float p = a.floatValue();
            float q = b.floatValue();
            switch (name) {
                case "add": return (p + q) % 1024;
                case "sub": return (p - q) % 1024;
                case "mul": return p * q % 1024;
                case "rem": return q == 0 ? 0f : p % q;
                case "max": return Math.max(p, q);
                case "min": return Math.min(p, q);
                default: return p > q ? p : null;
            }
        }
        double p = a.doubleValue();
        double q = b.doubleValue();
        switch (name) {
            case "add": return (p + q) % 1024;
            case "sub": return (p - q) % 1024;
            case "mul": return p * q % 1024;
            case "rem": return q == 0 ? 0d : exactRemainder(p, q);
            case "max": return Math.max(p, q);
            case "min": return Math.min(p, q);
            default: return p > q ? p : null;
        }
    }

    /** The items {turn, statement, item} of a turn, as if none had a fault. */
    ArrayDeque<int[]> itemsOf(int i) {
        ArrayDeque<int[]> all = new ArrayDeque<>();
        for (int k = 0; k < statements.size(); k++) {
            for (int j = 0; j < statements.get(k).count; j++) {
                if (done(statements.get(k), i)) all.add(new int[] {i, k, j});
            }
        }
        return all;
    }

    World play(boolean byVerdict, int workers, int deal, int seed) {
        World world = new World(byVerdict);
        List<ArrayDeque<int[]>> queues = new ArrayList<>();
        int share = (int) Math.ceil(n / (double) workers);
        for (int w = 0; w < workers; w++) {
            ArrayDeque<int[]> queue = new ArrayDeque<>();
            for (int t = 0; t < n; t++) {
                int i = deal == 2 ? n - 1 - t : t;
                if ((deal == 1 ? i / share : i % workers) == w) queue.addAll(itemsOf(i));
            }
            queues.add(queue);
        }
        while (true) {
            List<ArrayDeque<int[]>> busy = new ArrayList<>();
            for (ArrayDeque<int[]> queue : queues) if (!queue.isEmpty()) busy.add(queue);
            if (busy.isEmpty()) break;
            ArrayDeque<int[]> queue = busy.get(seed % busy.size());
            seed = (13 * seed + 7) % 64;
            int[] step = queue.removeFirst();
            int fault = item(world, statements.get(step[1]), step[0], step[2]);
            if (fault == NONE) world.result.items++;
            else {
                world.result.faults[fault]++;
                while (!queue.isEmpty() && queue.peekFirst()[0] == step[0]) queue.removeFirst();
            }
            if (queue.isEmpty() || queue.peekFirst()[0] != step[0]) world.result.ended.add(step[0]);
        }
        world.close();
        return world;
    }

    int keep(World world) {
        rows = world.cells;
        latest = world.result;
        return latest.items;
    }

    int run() {
        return keep(play(false, 1, 0, 0));
    }

    int refusal(int workers, int deal, int seed, int force) {
        if (!in(workers, 1, 4) || !in(deal, 0, 2) || !in(seed, 0, 63) || !in(force, 0, 1)) return BAD;
        return force == 0 && count(4) == 0 ? NOT : 0;
    }

    int mixed(int workers, int deal, int seed, int force) {
        int refusal = refusal(workers, deal, seed, force);
        return refusal != 0 ? refusal : keep(play(true, workers, deal, seed));
    }

    int same(int workers, int deal, int seed, int force) {
        int refusal = refusal(workers, deal, seed, force);
        if (refusal != 0) return refusal;
        World a = play(false, 1, 0, 0);
        World b = play(true, workers, deal, seed);
        for (int r = 0; r < 6; r++) {
            if (a.cells[r] != null && !Arrays.equals(a.cells[r].cells, b.cells[r].cells)) return 0;
        }
        return a.result.items == b.result.items && Arrays.equals(a.result.faults, b.result.faults) ? 1 : 0;
    }

    int faults(int kind) {
        return in(kind, 0, 2) ? latest.faults[kind] : BAD;
    }

    int ended(int p) {
        if (!in(p, 0, 9)) return BAD;
        return p < latest.ended.size() ? latest.ended.get(p) : NONE;
    }

    int writer(int r, int i) {
        if (!in(r, 0, 5)) return BAD;
        if (rows[r] == null) return found(1);
        return in(i, 0, rows[r].cells.length - 1) ? rows[r].writers[i] : found(2);
    }

    int count(int what) {
        int serial = 0;
        int missing = 0;
        for (int r = 0; r < 6; r++) {
            if (rows[r] == null) missing++;
            else if (what == 4 || what == 5) serial += verdict(r) == 4 ? 1 : 0;
        }
        int[] all = {n, statements.size(), past.size(), text.size(), serial == 0 ? 1 : 0, serial, latest.items,
            missing, finding};
        return in(what, 0, 8) ? all[what] : BAD;
    }

    long digest() {
        List<Long> all = new ArrayList<>();
        for (int what = 0; what < 8; what++) all.add((long) count(what));
        for (int k = 0; k < statements.size(); k++) {
            for (int what = 0; what < 7; what++) all.add((long) info(k, what));
            for (int w = 0; w < 3; w++) {
                for (int what = 0; what < 4; what++) all.add((long) reference(k, w, what));
                if (statements.get(k).refs[w][0] == NONE || n == 0) continue;
                for (int part = 0; part < 3; part++) all.add((long) section(3 * k + w, 0, part));
            }
            for (int r = 0; r < 6; r++) all.add((long) kinds(k, r));
        }
        for (int r = 0; r < 6; r++) {
            all.add((long) verdict(r));
            for (int part = 0; part < 3; part++) all.add((long) witness(r, part));
            for (int s = 0; s < 4; s++) {
                all.add((long) many(s, r, NONE));
                all.add((long) pieces(s, r, NONE));
                for (int i = 0; i < n; i++) all.add((long) many(s, r, i));
            }
        }
        for (int r = 0; r < 6; r++) {
            for (int c = 0; rows[r] != null && c < rows[r].cells.length; c++) {
                all.add(get(r, c));
                all.add((long) writer(r, c));
                all.add((long) last(1, r, c));
                all.add((long) last(2, r, c));
            }
        }
        for (int kind = 0; kind < 3; kind++) all.add((long) faults(kind));
        for (int p = 0; p < 10; p++) all.add((long) ended(p));
        long h = 17;
        for (long v : all) h = 31 * h + v;
        return h;
    }
}
