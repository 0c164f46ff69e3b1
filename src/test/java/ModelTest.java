import java.util.Random;

/**
 * The class and the model asked the same, call by call, over runs of calls drawn from a fixed seed.
 * With arguments a first seed and a number of runs, for longer hunts.
 */
public final class ModelTest {
    private static final int CALLS = 400;
    private static final int[] FREQUENT = {0, 0, 1, 1, 2, 3, 4};
    private static final int[] WILD = {Integer.MIN_VALUE, Integer.MIN_VALUE + 1, -61, -25, -7, -3, -2, -1, 0, 1, 3,
        4, 5, 6, 7, 9, 10, 11, 15, 23, 24, 25, 61, 64, 255, 256, 1 << 30, Integer.MAX_VALUE - 1, Integer.MAX_VALUE};

    private final Random random;
    private final long seed;
    private final StringBuilder log = new StringBuilder();
    private StrideTurns x = new StrideTurns();
    private Model m = new Model();
    private boolean wild;
    private int widest;

    private ModelTest(long seed) {
        this.seed = seed;
        random = new Random(seed);
    }

    public static void main(String[] args) {
        long first = args.length > 0 ? Long.parseLong(args[0]) : 1;
        long runs = args.length > 1 ? Long.parseLong(args[1]) : 250;
        for (long seed = first; seed < first + runs; seed++) {
            new ModelTest(seed).play();
        }
        Check.end();
    }

    private int pick(int least, int most) {
        return least + random.nextInt(most - least + 1);
    }

    /** Mostly a number in bounds, now and then any. */
    private int some(int least, int most) {
        int chance = random.nextInt(wild ? 6 : 40);
        if (chance == 0) {
            return random.nextInt(3) == 0 ? random.nextInt() : WILD[random.nextInt(WILD.length)];
        }
        return chance == 1 && wild ? pick(least - 1, most + 1) : pick(least, Math.max(least, most));
    }

    private void due(String call, long got, long want) {
        log.append("  ").append(call).append(" -> ").append(got).append('\n');
        if (got != want) {
            System.out.println("seed " + seed + ":\n" + log);
        }
        Check.due(0, "seed " + seed + ": " + call, got, want);
    }

    private void play() {
        wild = seed % 5 == 0;
        widest = pick(1, 5);
        if (seed % 7 != 0) {
            furnish();
        }
        for (int call = 0; call < CALLS / 2; call++) {
            int kind = random.nextInt(40);
            if (kind < 4) {
                tellRows();
            } else if (kind < 7) {
                tellLoop();
            } else if (kind < 30) {
                ask();
            } else {
                runs();
            }
        }
        due("digest()", x.digest(), m.digest());
    }

    private void furnish() {
        for (int r = 0; r <= widest; r++) {
            makeRow(r, FREQUENT[random.nextInt(random.nextInt(4) == 0 ? FREQUENT.length : 6)], pick(9, 24));
        }
        if (random.nextBoolean()) {
            makeRow(5, 4, pick(4, 12));
        }
        int n = pick(2, 10);
        due("turns(" + n + ")", x.turns(n), m.turns(n));
        for (int k = pick(1, 4); k > 0; k--) {
            addStatement();
        }
    }

    private void makeRow(int r, int form, int n) {
        due("row(" + r + ", " + form + ", " + n + ")", x.row(r, form, n), m.row(r, form, n));
        for (int i = 0; i < n && r < 6; i++) {
            if (random.nextBoolean()) {
                putCell(r, form, i);
            }
        }
    }

    private int number() {
        switch (random.nextInt(6)) {
            case 0: return random.nextInt();
            case 1: return WILD[random.nextInt(WILD.length)];
            default: return pick(-40, 40);
        }
    }

    private void putCell(int r, int form, int i) {
        int v = number();
        due("put(" + r + ", " + form + ", " + i + ", " + v + ")", x.put(r, form, i, v), m.put(r, form, i, v));
    }

    private void tellRows() {
        int r = some(0, 5);
        int form = some(0, 4);
        int i = some(0, 14);
        switch (random.nextInt(wild ? 6 : 12)) {
            case 0:
                due("row(" + r + ", " + form + ", " + i + ")", x.row(r, form, i), m.row(r, form, i));
                return;
            case 1:
                if (random.nextInt(3) == 0) {
                    due("lose(" + r + ")", x.lose(r), m.lose(r));
                }
                return;
            case 2: {
                int t = some(0, 5);
                int j = some(0, 14);
                int n = some(0, 9);
                due("copy(" + r + ", " + i + ", " + t + ", " + j + ", " + n + ")", x.copy(r, i, t, j, n),
                        m.copy(r, i, t, j, n));
                return;
            }
            default:
                if (r >= 0 && r < 6 && m.rows[r] != null && random.nextInt(8) != 0) {
                    form = m.rows[r].form;
                }
                putCell(r, form, i);
        }
    }

    private void type(String name) {
        for (int i = 0; i < name.length(); i++) {
            int b = random.nextInt(200) == 0 ? some(0, 255) : name.charAt(i);
            due("type(" + b + ")", x.type(b), m.type(b));
        }
    }

    private void addStatement() {
        int before = m.statements.size();
        String name = Model.NAMES[random.nextInt(Model.NAMES.length)];
        type(name);
        int count = some(1, random.nextInt(3) + 1);
        due("statement(" + count + ")", x.statement(count), m.statement(count));
        if (m.statements.size() == before) {
            due("wipe()", x.wipe(), m.wipe());
            return;
        }
        int r = pick(0, widest);
        int from = pick(0, 4);
        int by = pick(-1, 2);
        int step = pick(-1, 2);
        boolean gathers = random.nextInt(3) == 0;
        if (gathers) {
            by = random.nextInt(3) == 0 ? by : 0;
        }
        referAt(before, 0, r, from, by, step);
        if (gathers) {
            referAt(before, 1, r, from, by, step);
        } else if (random.nextInt(4) != 0) {
            referAt(before, 1, pick(0, widest), pick(0, 6), pick(-1, 2), pick(-1, 2));
        }
        if (random.nextInt(3) != 0) {
            referAt(before, 2, pick(0, gathers ? 5 : widest), pick(0, 6), pick(-1, 2), pick(-1, 2));
        } else {
            placeAt(before, 2, pick(-60, 60), 0, 0);
        }
        if (random.nextInt(4) == 0) {
            int period = pick(1, 4);
            guardBy(before, period, pick(0, period - 1));
        }
    }

    private void referAt(int k, int which, int r, int from, int by, int step) {
        due("refer(" + k + ", " + which + ", " + r + ")", x.refer(k, which, r), m.refer(k, which, r));
        placeAt(k, which, from, by, step);
    }

    private void placeAt(int k, int which, int from, int by, int step) {
        due("place(" + k + ", " + which + ", " + from + ", " + by + ", " + step + ")",
                x.place(k, which, from, by, step), m.place(k, which, from, by, step));
    }

    private void guardBy(int k, int period, int phase) {
        due("guard(" + k + ", " + period + ", " + phase + ")", x.guard(k, period, phase), m.guard(k, period, phase));
    }

    private void tellLoop() {
        int k = some(0, m.statements.size() - 1);
        switch (random.nextInt(9)) {
            case 0: {
                int n = some(random.nextInt(4) == 0 ? 0 : 4, 10);
                due("turns(" + n + ")", x.turns(n), m.turns(n));
                return;
            }
            case 1:
            case 2:
                addStatement();
                return;
            case 3: {
                int which = some(0, 2);
                int r = some(-1, widest);
                due("refer(" + k + ", " + which + ", " + r + ")", x.refer(k, which, r), m.refer(k, which, r));
                return;
            }
            case 4:
                placeAt(k, some(0, 2), some(0, 12), some(-1, 2), some(-2, 2));
                return;
            case 5:
                guardBy(k, some(1, 6), some(0, 1));
                return;
            case 6: {
                int r = random.nextBoolean() ? StrideTurns.NONE : some(-1, 5);
                due("mask(" + k + ", " + r + ")", x.mask(k, r), m.mask(k, r));
                return;
            }
            case 7:
                for (int times = pick(1, 6); times > 0; times--) {
                    due("undo()", x.undo(), m.undo());
                }
                return;
            default:
                type(random.nextBoolean() ? "ad" : "mulls");
                due("wipe()", x.wipe(), m.wipe());
        }
    }

    private void ask() {
        int k = some(0, m.statements.size() - 1);
        int r = some(0, random.nextInt(4) == 0 ? 5 : widest);
        int i = some(-1, m.n - 1);
        int set = some(0, 3);
        int part = some(0, 2);
        int e = some(0, 3 * m.statements.size() - 1);
        switch (random.nextInt(16)) {
            case 0: {
                int what = some(0, 6);
                due("info(" + k + ", " + what + ")", x.info(k, what), m.info(k, what));
                return;
            }
            case 1: {
                int which = some(0, 2);
                due("reference(" + k + ", " + which + ", " + part + ")", x.reference(k, which, part),
                        m.reference(k, which, part));
                return;
            }
            case 2:
                due("section(" + e + ", " + i + ", " + part + ")", x.section(e, i, part), m.section(e, i, part));
                return;
            case 3: {
                int g = some(0, 3 * m.statements.size() - 1);
                int h = some(0, m.n - 1);
                part = some(0, 3);
                due("meet(" + e + ", " + i + ", " + g + ", " + h + ", " + part + ")", x.meet(e, i, g, h, part),
                        m.meet(e, i, g, h, part));
                return;
            }
            case 4:
                due("kinds(" + k + ", " + r + ")", x.kinds(k, r), m.kinds(k, r));
                return;
            case 5: {
                int n = some(0, Math.max(0, m.kinds(k, r) - 1));
                part = some(0, 3);
                due("kind(" + k + ", " + r + ", " + n + ", " + part + ")", x.kind(k, r, n, part), m.kind(k, r, n, part));
                return;
            }
            case 6:
                due("many(" + set + ", " + r + ", " + i + ")", x.many(set, r, i), m.many(set, r, i));
                return;
            case 7:
                due("pieces(" + set + ", " + r + ", " + i + ")", x.pieces(set, r, i), m.pieces(set, r, i));
                return;
            case 8: {
                int p = some(0, Math.max(0, m.pieces(set, r, i) - 1));
                due("piece(" + set + ", " + r + ", " + i + ", " + p + ", " + part + ")", x.piece(set, r, i, p, part),
                        m.piece(set, r, i, p, part));
                return;
            }
            case 9:
                due("verdict(" + r + ")", x.verdict(r), m.verdict(r));
                return;
            case 10: {
                int form = some(0, 3);
                due("would(" + r + ", " + form + ")", x.would(r, form), m.would(r, form));
                return;
            }
            case 11:
                due("witness(" + r + ", " + part + ")", x.witness(r, part), m.witness(r, part));
                return;
            case 12: {
                int c = some(0, 15);
                set = some(1, 2);
                due("last(" + set + ", " + r + ", " + c + ")", x.last(set, r, c), m.last(set, r, c));
                return;
            }
            case 13: {
                int c = some(0, 12);
                due("get(" + r + ", " + c + ")", x.get(r, c), m.get(r, c));
                return;
            }
            case 14: {
                int what = some(0, 8);
                due("count(" + what + ")", x.count(what), m.count(what));
                return;
            }
            default:
                if (random.nextInt(4) == 0) {
                    due("digest()", x.digest(), m.digest());
                }
        }
    }

    private void runs() {
        int workers = some(1, 4);
        int deal = some(0, 2);
        int seeded = some(0, 63);
        int force = some(0, 1);
        String told = "(" + workers + ", " + deal + ", " + seeded + ", " + force + ")";
        switch (random.nextInt(8)) {
            case 0:
            case 1:
                due("run()", x.run(), m.run());
                return;
            case 2:
            case 3:
                due("mixed" + told, x.mixed(workers, deal, seeded, force), m.mixed(workers, deal, seeded, force));
                return;
            case 4:
                due("same" + told, x.same(workers, deal, seeded, force), m.same(workers, deal, seeded, force));
                return;
            case 5: {
                int kind = some(0, 2);
                due("faults(" + kind + ")", x.faults(kind), m.faults(kind));
                return;
            }
            case 6: {
                int p = some(0, 9);
                due("ended(" + p + ")", x.ended(p), m.ended(p));
                return;
            }
            default: {
                int r = some(0, random.nextInt(4) == 0 ? 5 : widest);
                int i = some(0, 12);
                due("writer(" + r + ", " + i + ")", x.writer(r, i), m.writer(r, i));
            }
        }
    }
}
