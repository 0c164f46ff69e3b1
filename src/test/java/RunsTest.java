/** Promises 29 to 36: runs, and what is told of them. */
public final class RunsTest {
    private static final int MIN = Integer.MIN_VALUE, MAX = Integer.MAX_VALUE;

    public static void main(String[] args) {
        runInOrder();
        runReadsWhatItWrote();
        runDoesTurnsOneBehindAnother();
        mostItems();
        faultsInTheirOrder();
        overEndsATurn();
        maskedTurns();
        pickWrites();
        deals();
        dealByShares();
        dealByEvenShares();
        seeds();
        stepsOfFaults();
        turnsBehindFaults();
        copiedRows();
        copiedTurnsThatPick();
        gatheredRows();
        serialRows();
        runBehindAMixedOne();
        mixedKnowsWhatWasTold();
        mixedRefused();
        same();
        sameLeavesNothing();
        sameLooksAtAll();
        sameInEachRow();
        faults();
        ended();
        writer();
        writersOfNewRows();
        count();
        digest();
        digestTellsAll();
        digestOfReferences();
        digestOfFaults();
        digestOfPicks();
        Check.end();
    }

    private static void cells(int promise, Scene s, int r, int... due) {
        for (int i = 0; i < due.length; i++) {
            Check.due(promise, "get(" + r + ", " + i + ")", s.x.get(r, i), due[i]);
        }
    }

    private static void writers(int promise, Scene s, int r, int... due) {
        for (int i = 0; i < due.length; i++) {
            Check.due(promise, "writer(" + r + ", " + i + ")", s.x.writer(r, i), due[i]);
        }
    }

    private static void endings(int promise, Scene s, int... due) {
        for (int p = 0; p < 10; p++) {
            Check.due(promise, "ended(" + p + ")", s.x.ended(p), p < due.length ? due[p] : -1);
        }
    }

    private static void faulted(int promise, Scene s, int... due) {
        for (int kind = 0; kind < 3; kind++) {
            Check.due(promise, "faults(" + kind + ")", s.x.faults(kind), due[kind]);
        }
    }

    private static void runInOrder() {
        Scene s = new Scene().row(0, 1, 6, 1, 2, 3, 4, 5, 6).row(1, 1, 6).turns(3);
        s.tell("mul", 2, Scene.at(1, 0, 2, 1), Scene.at(0, 0, 2, 1), Scene.at(0, 5, -1, 0));
        Check.due(29, "run()", s.x.run(), 6);
        cells(29, s, 1, 6, 12, 15, 20, 20, 24);
        cells(29, s, 0, 1, 2, 3, 4, 5, 6);
        endings(33, s, 0, 1, 2);
        writers(34, s, 1, 0, 0, 1, 1, 2, 2);
        writers(34, s, 0, -1, -1, -1, -1, -1, -1);
        Check.due(35, "items", s.x.count(6), 6);
        s.turns(0);
        Check.due(29, "run() without turns", s.x.run(), 0);
        endings(33, s);
        writers(34, s, 1, -1, -1, -1, -1, -1, -1);
        Check.due(29, "run() without statements", new Scene().turns(4).x.run(), 0);
    }

    private static void runReadsWhatItWrote() {
        Scene s = new Scene().row(0, 1, 9, 1, 1).turns(7);
        s.tell("add", 1, Scene.at(0, 2, 1, 0), Scene.at(0, 0, 1, 0), Scene.at(0, 1, 1, 0));
        Check.due(29, "run()", s.x.run(), 7);
        cells(29, s, 0, 1, 1, 2, 3, 5, 8, 13, 21, 34);
        writers(34, s, 0, -1, -1, 0, 1, 2, 3, 4, 5, 6);
    }

    private static void runDoesTurnsOneBehindAnother() {
        // the second item of a turn writes what the first one of the next turn reads
        Scene s = new Scene().row(0, 1, 9, 1).turns(4);
        s.tell("add", 2, Scene.at(0, 1, 2, 1), Scene.at(0, 0, 2, 1), Scene.constant(1));
        Check.due(29, "run()", s.x.run(), 8);
        cells(29, s, 0, 1, 2, 3, 4, 5, 6, 7, 8, 9);
        writers(34, s, 0, -1, 0, 0, 1, 1, 2, 2, 3, 3);
    }

    private static void mostItems() {
        Scene s = new Scene().turns(10);
        for (int k = 0; k < 5; k++) {
            s.row(k, 1, 24);
            s.tell("add", 5, Scene.at(k, 0, 0, 1), Scene.at(k, 0, 0, 1), Scene.constant(k + 1));
        }
        Check.due(29, "all items", s.x.run(), 250);
        cells(29, s, 4, 50, 50, 50, 50, 50, 0);
        Check.due(30, "all items, mixed", s.x.mixed(4, 2, 50, 0), 250);
        cells(30, s, 4, 100, 100, 100, 100, 100, 0);
        Check.due(31, "all items, the same", s.x.same(3, 1, 50, 0), 1);
        for (int p = 0; p < 10; p++) {
            Check.holds("all turns have ended", s.x.ended(p) >= 0);
        }
    }

    private static void faultsInTheirOrder() {
        Scene s = new Scene().row(0, 1, 4, 9, 9, 9, 9).row(1, 4, 4).turns(1);
        s.tell("add", 1, Scene.at(0, 0, 0, 0), Scene.at(0, 0, 0, 0), Scene.at(0, 0, 0, 0));
        int[] missing = Scene.at(3, 0, 0, 0);
        int[] truths = Scene.at(1, 0, 0, 0);
        int[] outside = Scene.at(0, 4, 0, 0);
        int[] below = Scene.at(0, -1, 0, 0);
        int[] fine = Scene.at(0, 1, 0, 0);
        int[][][] told = {{fine, missing, outside}, {fine, outside, missing}, {fine, truths, fine}, {fine, fine, truths},
            {missing, fine, outside}, {outside, fine, missing}, {missing, outside, fine}, {outside, missing, fine},
            {truths, fine, fine}, {below, fine, fine}, {fine, below, fine}, {fine, fine, below}, {fine, fine, fine}};
        int[] due = {0, 1, 0, 0, 1, 0, 1, 0, 0, 1, 1, 1, -1};
        for (int n = 0; n < told.length; n++) {
            for (int which = 0; which < 3; which++) {
                s.refer(0, which, told[n][which]);
            }
            Check.due(29, "run() " + n, s.x.run(), due[n] < 0 ? 1 : 0);
            for (int kind = 0; kind < 3; kind++) {
                Check.due(32, n + ": faults(" + kind + ")", s.x.faults(kind), kind == due[n] ? 1 : 0);
            }
            endings(33, s, 0);
        }
        Check.due(29, "faults are no findings", s.x.count(8), 0);
        s.x.undo();
        s.refer(0, Scene.RIGHT, missing);
        s.row(2, 1, 1);
        s.type("copy");
        s.x.statement(1);
        s.refer(1, Scene.RIGHT, missing);
        s.x.guard(0, 2, 1);
        Check.due(29, "a copy has no right", s.x.run(), 1);
    }

    private static void overEndsATurn() {
        Scene s = new Scene().row(0, 1, 4, MAX, MIN, 65536, 46340).row(1, 1, 4).row(2, 1, 4).turns(4);
        s.tell("sure", 1, Scene.at(1, 0, 1, 0), Scene.at(0, 0, 1, 0), Scene.constant(1));
        s.tell("times", 1, Scene.at(2, 0, 1, 0), Scene.at(0, 0, 1, 0), Scene.at(0, 0, 1, 0));
        Check.due(29, "run()", s.x.run(), 4);
        // turn 0 is over at once; turn 1 behind the sum; turn 2 too; turn 3 is not
        cells(29, s, 1, 0, MIN + 1, 65537, 46341);
        cells(29, s, 2, 0, 0, 0, 46340 * 46340);
        faulted(32, s, 0, 0, 3);
        endings(33, s, 0, 1, 2, 3);
        writers(34, s, 1, -1, 1, 2, 3);
        writers(34, s, 2, -1, -1, -1, 3);
    }

    private static void maskedTurns() {
        Scene s = new Scene().row(0, 1, 9).row(5, 4, 4, 1, 0, 0, 1).turns(9);
        s.tell("add", 1, Scene.at(0, 0, 1, 0), Scene.constant(7), Scene.constant(0));
        s.x.mask(0, 5);
        Check.due(29, "run()", s.x.run(), 2);
        cells(29, s, 0, 7, 0, 0, 7, 0, 0, 0, 0, 0);
        endings(33, s, 0, 3);
        s.x.guard(0, 3, 0);
        s.x.mask(0, -1);
        Check.due(29, "run()", s.x.run(), 3);
        endings(33, s, 0, 3, 6);
        writers(34, s, 0, 0, -1, -1, 3, -1, -1, 6, -1, -1);
    }

    private static void pickWrites() {
        Scene s = new Scene().row(0, 1, 6, 4, 2, 7, 7, 1, 9).row(1, 1, 2).turns(6);
        s.tell("pick", 1, Scene.at(1, 0, 0, 0), Scene.at(0, 0, 1, 0), Scene.at(1, 0, 0, 0));
        Check.due(29, "items that do not write are done", s.x.run(), 6);
        cells(29, s, 1, 9, 0);
        writers(34, s, 1, 5, -1);
        s.turns(5);
        s.x.put(1, 1, 0, 0);
        s.x.run();
        cells(29, s, 1, 7, 0);
        writers(34, s, 1, 2, -1);
    }

    /** Turns of one item each, so that they end in the order of the steps. */
    private static Scene singles(int turns) {
        Scene s = new Scene().row(0, 1, 24).turns(turns);
        s.tell("add", 1, Scene.at(0, 0, 1, 0), Scene.at(0, 0, 1, 0), Scene.constant(1));
        return s;
    }

    private static void deals() {
        Scene s = singles(5);
        Check.due(30, "one worker", s.x.mixed(1, 0, 63, 0), 5);
        endings(30, s, 0, 1, 2, 3, 4);
        s.x.mixed(1, 1, 9, 0);
        endings(30, s, 0, 1, 2, 3, 4);
        s.x.mixed(1, 2, 9, 0);
        endings(30, s, 4, 3, 2, 1, 0);
        // seeds 0 7 34 1 20: of two workers 0 1 0 1, then of the one that is left
        s.x.mixed(2, 0, 0, 0);
        endings(30, s, 0, 1, 2, 3, 4);
        s.x.mixed(2, 1, 0, 0);
        endings(30, s, 0, 3, 1, 4, 2);
        s.x.mixed(2, 2, 0, 0);
        endings(30, s, 4, 3, 2, 1, 0);
        // seeds 1 20 11 22 37: modulo 2 they are 1 0 1, then worker 0 is alone
        s.x.mixed(2, 0, 1, 0);
        endings(30, s, 1, 0, 3, 2, 4);
        s.x.guard(0, 2, 1);
        Check.due(30, "turns with no statement are passed over", s.x.mixed(2, 2, 0, 0), 2);
        endings(30, s, 3, 1);
    }

    private static void dealByShares() {
        // of 4 workers 5 turns go 2 2 1 0, 10 turns 3 3 3 1
        Scene s = singles(5);
        s.x.mixed(4, 1, 0, 0);
        // seeds 0 7 34 1 20; of three: 0 1 1; then of 0 and 2: 2; then 0 alone
        endings(30, s, 0, 2, 3, 4, 1);
        s = singles(10);
        s.x.mixed(4, 1, 2, 0);
        // seeds 2 33 52 43 54 5 8 47 42 41; of four: 2 1 0 3; of three: 0 2 2; of 0 and 1: 1 0; then 1 alone
        endings(30, s, 6, 3, 0, 9, 1, 7, 8, 4, 2, 5);
    }

    private static void dealByEvenShares() {
        Scene s = singles(6);
        // seeds 0 7 34 1 20 5: of workers 0 (0 1), 1 (2 3), 2 (4 5): 0 1 1, then of 0 and 2: 2 0, then 2
        s.x.mixed(3, 1, 0, 0);
        endings(30, s, 0, 2, 3, 4, 1, 5);
        s = singles(3);
        // seeds 2 33 52: of workers 0, 1, 2 the last, of 0, 1 the last, then 0
        s.x.mixed(3, 1, 2, 0);
        endings(30, s, 2, 1, 0);
        s = singles(2);
        s.x.mixed(4, 1, 1, 0);
        endings(30, s, 1, 0);
    }

    private static void seeds() {
        for (int seed = 0; seed < 64; seed++) {
            Scene s = singles(8);
            Check.due(30, "mixed(3, 2, " + seed + ", 0)", s.x.mixed(3, 2, seed, 0), 8);
            int[] next = {6, 7, 5};
            int state = seed;
            for (int p = 0; p < 8; p++) {
                int busy = (next[0] >= 0 ? 1 : 0) + (next[1] >= 0 ? 1 : 0) + (next[2] >= 0 ? 1 : 0);
                int number = state % busy;
                int w = 0;
                while (next[w] < 0 || number-- > 0) {
                    w++;
                }
                Check.due(30, "seed " + seed + ": ended(" + p + ")", s.x.ended(p), next[w]);
                next[w] -= 3;
                state = (13 * state + 7) % 64;
            }
        }
    }

    private static void stepsOfFaults() {
        Scene s = new Scene().row(0, 1, 4).row(1, 1, 9).turns(4);
        s.tell("copy", 2, Scene.at(0, 0, 1, 1), Scene.constant(3), Scene.constant(0));
        s.tell("copy", 1, Scene.at(1, 0, 1, 0), Scene.constant(4), Scene.constant(0));
        // worker 0: turns 0, 2; worker 1: 1, 3, whose second item has no cell 4
        Check.due(30, "mixed()", s.x.mixed(2, 0, 2, 0), 10);
        // seeds 2 33 52 43 54 5 8 ...: workers 0 1 0 1 0 1 0 1 0 1 0
        endings(30, s, 0, 1, 3, 2);
        faulted(30, s, 0, 1, 0);
        cells(30, s, 0, 3, 3, 3, 3);
        cells(30, s, 1, 4, 4, 4, 0);
        Check.due(35, "items", s.x.count(6), 10);
    }

    private static void turnsBehindFaults() {
        // turns 0, 2, 4 end at their second item, which has no left; 1 and 3 are done whole
        Scene s = new Scene().row(0, 1, 2, 5, 6).row(1, 1, 9).row(5, 4, 5, 1, 0, 1, 0, 1).turns(5);
        s.tell("copy", 2, Scene.at(1, 0, 0, 0), Scene.at(0, 1, 0, 6), Scene.constant(0));
        s.tell("copy", 3, Scene.at(1, 0, 2, 1), Scene.constant(8), Scene.constant(0));
        s.x.mask(0, 5);
        Check.due(29, "run()", s.x.run(), 3 + 2 * 3);
        faulted(32, s, 0, 3, 0);
        endings(33, s, 0, 1, 2, 3, 4);
        cells(29, s, 1, 6, 0, 8, 8, 8, 0, 8, 8, 8);
        writers(34, s, 1, 4, -1, 1, 1, 1, -1, 3, 3, 3);
    }

    private static void copiedRows() {
        // each turn keeps two sums in row 1 and multiplies them into row 2
        Scene s = new Scene().row(0, 1, 12, 1, 2, 3, 4, 5, 6, 7, 8, 9).row(1, 1, 3, 50, 60, 70).row(2, 1, 12).turns(6);
        s.tell("add", 2, Scene.at(1, 0, 0, 1), Scene.at(0, 0, 1, 1), Scene.constant(10));
        s.tell("mul", 1, Scene.at(2, 0, 1, 0), Scene.at(1, 0, 0, 0), Scene.at(1, 1, 0, 0));
        s.tell("add", 1, Scene.at(2, 6, 1, 0), Scene.at(1, 2, 0, 0), Scene.constant(1));
        Check.due(30, "verdict", s.x.verdict(1), 3);
        for (int deal = 0; deal < 3; deal++) {
            s.row(1, 1, 3, 50, 60, 70);
            Check.due(30, "mixed()", s.x.mixed(3, deal, 17, 0), 24);
            cells(30, s, 2, 132, 156, 182, 210, 240, 272, 71, 71, 71, 71, 71, 71);
            cells(30, s, 1, 16, 17, 70);
            writers(34, s, 1, 5, 5, -1);
            Check.due(31, "same()", s.x.same(3, deal, 17, 0), 1);
        }
    }

    private static void copiedTurnsThatPick() {
        // turn i writes cell 0 if it is above 3; what stays is what the greatest of those wrote
        Scene s = new Scene().row(0, 1, 6, 9, 2, 8, 3, 5, 1).row(1, 1, 2, 40, 41).turns(6);
        s.tell("pick", 1, Scene.at(1, 0, 0, 0), Scene.at(0, 0, 1, 0), Scene.constant(3));
        Check.due(30, "verdict", s.x.verdict(1), 3);
        s.x.mixed(4, 2, 30, 0);
        cells(30, s, 1, 5, 41);
        writers(34, s, 1, 4, -1);
    }

    private static void gatheredRows() {
        Scene s = new Scene().row(0, 1, 12, 1, 2, 3, 4, 5, 6, 7, 8, 9).row(1, 0, 3, 32000, -5, 2).turns(9);
        s.tell("add", 2, Scene.at(1, 0, 0, 1), Scene.at(1, 0, 0, 1), Scene.at(0, 0, 1, 0));
        s.x.row(0, 0, 12);
        for (int i = 0; i < 9; i++) {
            s.x.put(0, 0, i, 100 * (i + 1));
        }
        Check.due(30, "verdict", s.x.verdict(1), 2);
        Check.due(30, "mixed()", s.x.mixed(4, 2, 5, 0), 18);
        cells(30, s, 1, (short) 36500, 4495, 2);
        writers(34, s, 1, 8, 8, -1);
        // a greatest turn is not the last to write by deal 2
        Check.due(30, "mixed()", s.x.mixed(1, 2, 5, 0), 18);
        endings(33, s, 8, 7, 6, 5, 4, 3, 2, 1, 0);
        writers(34, s, 1, 8, 8, -1);
    }

    private static void serialRows() {
        Scene s = new Scene().row(0, 1, 9, 1).turns(5);
        s.tell("add", 1, Scene.at(0, 1, 1, 0), Scene.at(0, 0, 1, 0), Scene.constant(1));
        Check.due(30, "verdict", s.x.verdict(0), 4);
        Check.due(30, "mixed() of a loop that is not parallel", s.x.mixed(1, 0, 0, 0), -3);
        Check.due(31, "same() of a loop that is not parallel", s.x.same(1, 0, 0, 0), -3);
        cells(30, s, 0, 1, 0, 0, 0, 0, 0, 0, 0, 0);
        Check.due(30, "backwards, but forced", s.x.mixed(1, 2, 0, 1), 5);
        cells(30, s, 0, 1, 2, 1, 1, 1, 1, 0, 0, 0);
        writers(34, s, 0, -1, 0, 1, 2, 3, 4);
        Check.due(31, "it is not the same", s.x.same(1, 2, 0, 1), 0);
        Check.due(31, "in order it is", s.x.same(1, 0, 0, 1), 1);
        s.x.place(0, Scene.TARGET, 0, 0, 0);
        s.x.place(0, Scene.LEFT, 0, 0, 0);
        s.x.place(0, Scene.RIGHT, 0, 0, 0);
        s.x.refer(0, Scene.RIGHT, 0);
        s.x.mixed(1, 2, 0, 1);
        writers(34, s, 0, 0);                  // the last that wrote it, not the greatest
    }

    private static void runBehindAMixedOne() {
        for (int r = 0; r < 6; r++) {
            Scene s = copiedBefore(r);
            Check.due(29, "run()", s.x.run(), 3);
            cells(29, s, r, 7, 8, 9, 10, 0);
            writers(34, s, r, -1, 0, 1, 2, -1);
            s = copiedBefore(r);
            Check.due(31, "same() in order", s.x.same(1, 0, 0, 1), 1);
            Check.due(31, "same() backwards", s.x.same(1, 2, 0, 1), 0);
            s = copiedBefore(r);
            Check.due(30, "mixed()", s.x.mixed(1, 2, 0, 1), 3);
            cells(30, s, r, 7, 8, 1, 1, 0);
        }
    }

    /** A loop that is serial, told behind a mixed run in which its row was copied. */
    private static Scene copiedBefore(int r) {
        Scene s = new Scene().row(r, 1, 9, 4).turns(3);
        s.tell("copy", 1, Scene.at(r, 0, 0, 0), Scene.constant(7), Scene.constant(0));
        Check.due(30, "a copied row", s.x.verdict(r), 3);
        s.x.mixed(2, 0, 0, 0);
        cells(30, s, r, 7, 0);
        writers(34, s, r, 2, -1);
        for (int told = 0; told < 7; told++) {
            s.x.undo();
        }
        s.tell("add", 1, Scene.at(r, 1, 1, 0), Scene.at(r, 0, 1, 0), Scene.constant(1));
        return s;
    }

    /** Nothing is asked ahead of the run, so that what was known ahead is not what was told last. */
    private static void mixedKnowsWhatWasTold() {
        Scene s = new Scene().row(5, 1, 9, 4).turns(3);
        s.tell("copy", 1, Scene.at(5, 0, 0, 0), Scene.constant(7), Scene.constant(0));
        s.x.verdict(5);
        s.x.place(0, Scene.TARGET, 1, 1, 0);
        s.x.refer(0, Scene.LEFT, 5);
        s.x.place(0, Scene.LEFT, 0, 1, 0);
        s.x.mixed(1, 0, 0, 1);
        cells(30, s, 5, 4, 4, 4, 4, 0);
        s.x.refer(0, Scene.LEFT, -1);
        s.x.place(0, Scene.TARGET, 0, 0, 0);
        s.x.place(0, Scene.LEFT, 9, 0, 0);
        Check.due(31, "same()", s.x.same(3, 2, 8, 1), 1);
    }

    private static void mixedRefused() {
        Scene s = singles(3);
        s.x.run();
        long before = s.x.digest();
        int[][] bad = {{0, 0, 0, 0}, {5, 0, 0, 0}, {-1, 0, 0, 0}, {1, -1, 0, 0}, {1, 3, 0, 0}, {1, 0, -1, 0}, {1, 0, 64, 0},
            {1, 0, 0, -1}, {1, 0, 0, 2}, {MIN, 0, 0, 0}, {1, MAX, 0, 0}, {1, 0, MIN, 0}, {1, 0, 0, MAX}};
        for (int[] b : bad) {
            String of = "(" + b[0] + ", " + b[1] + ", " + b[2] + ", " + b[3] + ")";
            Check.due(30, "mixed" + of, s.x.mixed(b[0], b[1], b[2], b[3]), -2);
            Check.due(31, "same" + of, s.x.same(b[0], b[1], b[2], b[3]), -2);
        }
        Check.due(30, "digest() behind refusals", s.x.digest(), before);
        s.x.place(0, Scene.TARGET, 1, 1, 0);
        Check.due(30, "a bad one of a serial loop", s.x.mixed(5, 0, 0, 0), -2);
        Check.due(30, "a serial loop", s.x.mixed(4, 2, 63, 0), -3);
        Check.due(30, "forced", s.x.mixed(4, 2, 63, 1), 3);
        Check.due(30, "no turns", singles(0).x.mixed(4, 1, 0, 0), 0);
    }

    private static void same() {
        Scene s = singles(7);
        for (int workers = 1; workers <= 4; workers++) {
            for (int deal = 0; deal < 3; deal++) {
                Check.due(31, "same()", s.x.same(workers, deal, 11 * workers + deal, workers % 2), 1);
            }
        }
        Check.due(31, "no turns", singles(0).x.same(4, 1, 0, 0), 1);
    }

    private static void sameLeavesNothing() {
        Scene s = new Scene().row(0, 1, 9, 1).row(1, 1, 2, 3, 4).turns(5);
        s.tell("add", 1, Scene.at(0, 1, 1, 0), Scene.at(0, 0, 1, 0), Scene.constant(1));
        s.tell("add", 1, Scene.at(1, 0, 0, 0), Scene.at(1, 0, 0, 0), Scene.at(0, 5, 1, 0));
        s.x.run();
        s.x.put(0, 1, 3, 77);
        long before = s.x.digest();
        Check.due(31, "same()", s.x.same(2, 2, 9, 1), 0);
        Check.due(31, "digest() behind same()", s.x.digest(), before);
        endings(31, s, 0, 1, 2, 3, 4);
        writers(31, s, 1, 3, -1);
        cells(31, s, 1, 3, 4);
    }

    private static void sameLooksAtAll() {
        // the same cells, but a turn more or less ends by OVER: backwards turn 0 meets what turn 1 has done
        Scene s = new Scene().row(0, 1, 2, MAX - 1, 1).row(1, 1, 2, 1, -1).turns(2);
        s.tell("sure", 1, Scene.at(0, 0, 0, 0), Scene.at(0, 0, 0, 0), Scene.at(1, 0, 1, 0));
        s.tell("copy", 1, Scene.at(0, 0, 0, 0), Scene.constant(0), Scene.constant(0));
        Check.due(31, "with as many items", s.x.same(1, 2, 0, 1), 1);
        s.x.put(0, 1, 0, MAX);
        // in order: turn 0 is over, turn 1 does two items; backwards: both do two
        Check.due(31, "with unlike items", s.x.same(1, 2, 0, 1), 0);
        s.x.mixed(1, 2, 0, 1);
        faulted(32, s, 0, 0, 0);
        cells(31, s, 0, 0, 1);
        s.x.put(0, 1, 0, MAX);
        s.x.run();
        faulted(32, s, 0, 0, 1);
        cells(31, s, 0, 0, 1);
    }

    private static void sameInEachRow() {
        for (int r = 0; r < 6; r++) {
            // backwards cell 0 has what turn 0 copied; all else is the same
            Scene s = new Scene().row(r, 1, 24, 1).turns(2);
            s.tell("add", 1, Scene.at(r, 0, 0, 0), Scene.at(r, 0, 0, 0), Scene.constant(1));
            s.tell("mul", 1, Scene.at(r, 0, 0, 0), Scene.at(r, 0, 0, 0), Scene.constant(3));
            s.x.guard(0, 2, 0);
            s.x.guard(1, 2, 1);
            Check.due(31, "in row " + r, s.x.same(1, 2, 0, 1), 0);
            s.x.place(1, Scene.RIGHT, 1, 0, 0);
            Check.due(31, "the same in row " + r, s.x.same(1, 2, 0, 1), 1);
            s.x.run();
            writers(34, s, r, 1, -1);
            s.turns(0);
            s.x.run();
            writers(34, s, r, -1, -1);
        }
    }

    private static void faults() {
        Scene s = singles(5);
        faulted(32, s, 0, 0, 0);
        s.x.row(0, 1, 2);
        s.x.run();
        faulted(32, s, 0, 3, 0);
        s.x.lose(0);
        faulted(32, s, 0, 3, 0);
        s.x.run();
        faulted(32, s, 5, 0, 0);
        s.x.row(0, 1, 24);
        faulted(32, s, 5, 0, 0);
        s.x.run();
        faulted(32, s, 0, 0, 0);
        for (int kind : new int[] {-1, 3, MIN, MAX}) {
            Check.due(32, "faults(" + kind + ")", s.x.faults(kind), -2);
        }
    }

    private static void ended() {
        Scene s = singles(10);
        endings(33, s);
        s.x.mixed(1, 2, 0, 0);
        endings(33, s, 9, 8, 7, 6, 5, 4, 3, 2, 1, 0);
        s.turns(2);
        endings(33, s, 9, 8, 7, 6, 5, 4, 3, 2, 1, 0);
        s.x.run();
        endings(33, s, 0, 1);
        for (int p : new int[] {-1, 10, MIN, MAX}) {
            Check.due(33, "ended(" + p + ")", s.x.ended(p), -2);
        }
    }

    private static void writer() {
        Scene s = singles(3);
        writers(34, s, 0, -1, -1, -1, -1);
        s.x.run();
        writers(34, s, 0, 0, 1, 2, -1);
        s.x.put(0, 1, 1, 5);
        s.x.copy(0, 0, 0, 3, 1);
        writers(34, s, 0, 0, 1, 2, -1);
        s.x.guard(0, 2, 1);
        writers(34, s, 0, 0, 1, 2, -1);
        s.x.run();
        writers(34, s, 0, -1, 1, -1, -1);
        Check.due(34, "row below", s.x.writer(-1, 0), -2);
        Check.due(34, "row above", s.x.writer(6, 0), -2);
        Check.due(34, "missing", s.x.writer(1, -1), Scene.NULL);
        Check.due(34, "finding", s.x.count(8), 1);
        Check.due(34, "no such cell", s.x.writer(0, 24), Scene.INDEX);
        Check.due(34, "no cell below 0", s.x.writer(0, -1), Scene.INDEX);
        Check.due(34, "no cell of the least", s.x.writer(0, MIN), Scene.INDEX);
        Check.due(34, "finding", s.x.count(8), 2);
    }

    private static void writersOfNewRows() {
        Scene s = singles(3);
        s.x.run();
        s.x.row(0, 1, 24);
        writers(34, s, 0, -1, -1, -1);
        s.x.run();
        s.x.lose(0);
        Check.due(34, "of a missing row", s.x.writer(0, 0), Scene.NULL);
        s.x.row(0, 1, 24);
        writers(34, s, 0, -1, -1, -1);
        Check.due(34, "the run is still the latest", s.x.count(6), 3);
    }

    private static void count() {
        Scene s = singles(4);
        int[] due = {4, 1, 8, 0, 1, 0, 0, 5, 0};
        for (int what = 0; what < due.length; what++) {
            Check.due(35, "count(" + what + ")", s.x.count(what), due[what]);
        }
        s.type("xor");
        s.x.run();
        s.x.get(0, 99);
        s.x.lose(4);
        s.row(1, 1, 9);
        s.x.place(0, Scene.TARGET, 1, 1, 0);
        int[] then = {4, 1, 9, 3, 0, 1, 4, 4, 1};
        for (int what = 0; what < then.length; what++) {
            Check.due(35, "count(" + what + ")", s.x.count(what), then[what]);
        }
        s.x.wipe();
        s.tell("add", 1, Scene.at(1, 1, 1, 0), Scene.at(1, 0, 1, 0), Scene.constant(1));
        Check.due(35, "two serial rows", s.x.count(5), 2);
        for (int what : new int[] {-1, 9, MIN, MAX}) {
            Check.due(35, "count(" + what + ")", s.x.count(what), -2);
        }
    }

    private static long with(long h, int... values) {
        for (int v : values) {
            h = 31 * h + v;
        }
        return h;
    }

    private static void digest() {
        // of a new object: count() 0 to 7, by row a verdict, a witness, 4 sets of no cells, then faults and ends
        long h = with(17, 0, 0, 0, 0, 1, 0, 0, 6);
        for (int r = 0; r < 6; r++) {
            h = with(h, 0, -1, -1, -1, 0, 0, 0, 0, 0, 0, 0, 0);
        }
        h = with(h, 0, 0, 0, -1, -1, -1, -1, -1, -1, -1, -1, -1, -1);
        Check.due(36, "digest() of a new object", new StrideTurns().digest(), h);

        StrideTurns lost = new StrideTurns();
        lost.row(3, 1, 8);
        lost.lose(3);
        Check.due(36, "digest() with a row that is lost", lost.digest(), h);

        Scene s = new Scene().row(2, 1, 3, 5, 6, 7).turns(2);
        s.tell("add", 1, Scene.at(2, 0, 1, 0), Scene.at(2, 0, 2, 0), Scene.constant(9));
        s.x.run();
        s.x.get(2, 3);
        h = with(17, 2, 1, 8, 0, 1, 0, 2, 5);
        h = with(h, 0, 1, 1, 0, -1, 0, 2);                                     // info()
        h = with(h, 2, 0, 1, 0, 0, 1, 1, 2, 0, 2, 0, 0, 1, 1, -1, 9, 0, 0);    // references, with sections in turn 0
        h = with(h, 0, 0, 3, 0, 0, 0);                                         // kinds(): 0, 2, 1
        for (int r = 0; r < 6; r++) {
            if (r != 2) {
                h = with(h, 0, -1, -1, -1, 0, 0, 0, 0, 0, 0, 0, 0, 0, 0, 0, 0, 0, 0, 0, 0);
            } else {
                // turn 0 reads and writes 0, turn 1 reads 2 and writes 1
                h = with(h, 1, -1, -1, -1, 2, 1, 1, 1, 2, 1, 1, 1, 2, 1, 1, 1, 2, 1, 1, 1);
            }
        }
        h = with(h, 14, 0, 0, 0, 16, 1, 1, 1, 7, -1, -1, -1);                  // cells
        h = with(h, 0, 0, 0, 0, 1, -1, -1, -1, -1, -1, -1, -1, -1);
        Check.due(36, "digest() of a small loop", s.x.digest(), h);
    }

    private static void digestTellsAll() {
        Scene s = singles(4);
        s.x.run();
        long before = s.x.digest();
        Check.due(36, "digest() again", s.x.digest(), before);
        Check.holds("the findings are not in it", s.x.get(0, -1) < 0 && s.x.digest() == before);
        s.x.type(97);
        Check.holds("the text's length is in it", s.x.digest() != before);
        s.x.wipe();
        s.x.put(0, 1, 23, 1);
        Check.holds("cells are in it", s.x.digest() != before);
        s.x.put(0, 1, 23, 0);
        Check.due(36, "as before", s.x.digest(), before);
        s.x.mixed(1, 2, 0, 0);
        s.row(0, 1, 24, 1, 1, 1, 1);
        s.x.run();
        Check.holds("a run more on a new row", s.x.digest() != before);
    }

    private static void digestOfReferences() {
        // without turns no sections; with one turn there are
        for (int turns = 0; turns <= 1; turns++) {
            Scene s = new Scene().turns(turns);
            s.state("copy", 2);
            s.x.place(0, Scene.TARGET, 9, 0, 2);
            long h = with(17, turns, 1, 3, 0, 1, 0, 0, 6);
            h = with(h, 9, 2, 1, 0, -1, 0, turns, 0, 9, 0, 2);
            h = turns == 0 ? h : with(h, 9, 2, 2);
            h = with(h, -1, 0, 0, 0, -1, 0, 0, 0, turns, 0, 0, 0, 0, 0);
            for (int r = 0; r < 6; r++) {
                h = with(h, 0, -1, -1, -1);
                for (int set = 0; set < 4; set++) {
                    h = turns == 0 ? with(h, 0, 0) : with(h, 0, 0, 0);
                }
            }
            h = with(h, 0, 0, 0, -1, -1, -1, -1, -1, -1, -1, -1, -1, -1);
            Check.due(36, "digest() of a missing target", s.x.digest(), h);
        }
    }

    private static void digestOfFaults() {
        Scene s = new Scene().turns(3);
        s.state("copy", 1);
        s.x.run();
        long h = with(17, 3, 1, 2, 0, 1, 0, 0, 6);
        h = with(h, 9, 1, 1, 0, -1, 0, 3, 0, 0, 0, 0, 0, 1, 1, -1, 0, 0, 0, -1, 0, 0, 0, 1, 0, 0, 0, 0, 0);
        for (int r = 0; r < 6; r++) {
            h = with(h, 0, -1, -1, -1);
            h = with(with(h, 0, 0, 0, 0, 0, 0, 0, 0, 0, 0), 0, 0, 0, 0, 0, 0, 0, 0, 0, 0);
        }
        h = with(h, 3, 0, 0, 0, 1, 2, -1, -1, -1, -1, -1, -1, -1);
        Check.due(36, "digest() of faults", s.x.digest(), h);
    }

    private static void digestOfPicks() {
        Scene s = new Scene().row(3, 4, 1, 1).row(5, 2, 1, 12).turns(1);
        s.state("pick", 1);
        s.x.refer(0, Scene.TARGET, 5);
        long h = with(17, 1, 1, 3, 0, 1, 0, 0, 4);
        h = with(h, 10, 1, 1, 0, -1, 0, 1, 5, 0, 0, 0, 0, 1, 1, -1, 0, 0, 0, -1, 0, 0, 0, 0, 0, 0, 0, 0, 1);
        for (int r = 0; r < 6; r++) {
            h = with(h, r == 5 ? 1 : 0, -1, -1, -1, 0, 0, 0);
            h = r == 5 ? with(h, 1, 1, 1) : with(h, 0, 0, 0);
            h = with(h, 0, 0, 0, 0, 0, 0);
        }
        h = with(h, 1, -1, -1, -1);
        h = with(h, Float.floatToIntBits(1.5f), -1, 0, -1);
        h = with(h, 0, 0, 0, -1, -1, -1, -1, -1, -1, -1, -1, -1, -1);
        Check.due(36, "digest() of a pick", s.x.digest(), h);
    }
}
