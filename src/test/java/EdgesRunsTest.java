/** The edges that the document names of runs and what is told of them, a method a sentence: promises 29 to 36. */
public final class EdgesRunsTest {
    private static final int MAX = Integer.MAX_VALUE, NONE = StrideTurns.NONE, BAD = StrideTurns.BAD, NOT = StrideTurns.NOT;
    private static final int TURNS = 10, LIFE = 512;

    public static void main(String[] args) {
        inOrder();
        inOrderBehindAMixedRun();
        nothingToRun();
        mostItems();
        itemsWithNoFault();
        turnsByFault();
        turnsThatEnded();
        turnsWithoutItems();
        writerLast();
        writerGreatest();
        writerOfCopied();
        writerOfNewRows();
        latestRun();
        latestRunOfEachRow();
        latestRunAsItWas();
        beforeAnyRun();
        sameAsInOrder();
        notTheSameCells();
        notTheSameItems();
        notTheSameItemsAlone();
        notTheSameFaults();
        notTheSameKindOfFaults();
        sameThoughElse();
        nothingStays();
        sameRefused();
        faultsRefused();
        endedRefused();
        writerRefused();
        countOfWhatIsTold();
        countOfRows();
        countOfFindings();
        countRefused();
        digestOfNothing();
        digestOfMuch();
        digestWithoutTurns();
        digestWraps();
        lastCalls();
        Check.end();
    }

    private static void cells(Scene s, int r, long... due) {
        for (int i = 0; i < due.length; i++) {
            Check.due("get(" + r + ", " + i + ")", s.x.get(r, i), due[i]);
        }
    }

    private static void writers(Scene s, int r, int... due) {
        for (int i = 0; i < due.length; i++) {
            Check.due("writer(" + r + ", " + i + ")", s.x.writer(r, i), due[i]);
        }
    }

    private static void endings(Scene s, int... due) {
        for (int p = 0; p < TURNS; p++) {
            Check.due("ended(" + p + ")", s.x.ended(p), p < due.length ? due[p] : NONE);
        }
    }

    private static void faults(Scene s, int... due) {
        for (int kind = 0; kind < 3; kind++) {
            Check.due("faults(" + kind + ")", s.x.faults(kind), due[kind]);
        }
    }

    /** Turns of one item each, turn i to cell i. */
    private static Scene singles(int turns) {
        Scene s = new Scene().row(0, 1, 24).turns(turns);
        s.tell("add", 1, Scene.at(0, 0, 1, 0), Scene.at(0, 0, 1, 0), Scene.constant(1));
        return s;
    }

    private static void inOrder() {
        Check.sentence("A RUN in order does TURNS one behind another.");
        // the second item of a turn reads what the first wrote, the first what the second of the turn ahead wrote
        Scene s = new Scene().row(0, 1, 21, 1).turns(TURNS);
        s.tell("add", 2, Scene.at(0, 1, 2, 1), Scene.at(0, 0, 2, 1), Scene.constant(1));
        Check.due("mixed(1, 2, 0, 1)", s.x.mixed(1, 2, 0, 1), 20);
        Check.due("run()", s.x.run(), 20);
        for (int i = 0; i <= 20; i++) {
            Check.due("get(0, " + i + ")", s.x.get(0, i), i + 1);
        }
        endings(s, 0, 1, 2, 3, 4, 5, 6, 7, 8, 9);
        // a row that is copied by workers is as it is in order
        s = new Scene().row(0, 1, 2, 7).turns(3);
        s.tell("pick", 1, Scene.at(0, 0, 0, 0), Scene.constant(9), Scene.constant(8));
        s.tell("copy", 1, Scene.at(0, 1, 0, 0), Scene.at(0, 0, 0, 0), Scene.constant(0));
        s.x.guard(0, 3, 0);
        s.x.guard(1, 3, 2);
        s.x.run();
        cells(s, 0, 9, 9);
    }

    private static void inOrderBehindAMixedRun() {
        Check.sentence("A RUN in order does TURNS one behind another");
        for (int r = 0; r < 6; r++) {
            Scene s = serialBehindAMixedRun(r);
            Check.due("same() in order", s.x.same(1, 0, 0, 1), 1);
            Check.due("same() backwards", s.x.same(1, 2, 0, 1), 0);
            s = serialBehindAMixedRun(r);
            Check.due("run()", s.x.run(), TURNS);
            for (int i = 0; i <= TURNS; i++) {
                Check.due("get(" + r + ", " + i + ")", s.x.get(r, i), i + 1);
                Check.due("writer(" + r + ", " + i + ")", s.x.writer(r, i), i - 1);
            }
        }
    }

    /** A loop of turns that read what the turn ahead wrote, told behind a mixed run in which all of them had copies. */
    private static Scene serialBehindAMixedRun(int r) {
        Scene s = new Scene().row(r, 1, 24).turns(TURNS);
        s.tell("copy", 5, Scene.at(r, 0, 0, 1), Scene.constant(7), Scene.constant(0));
        s.tell("copy", 5, Scene.at(r, 5, 0, 1), Scene.constant(7), Scene.constant(0));
        Check.due("verdict(" + r + ")", s.x.verdict(r), 3);
        s.x.mixed(2, 0, 0, 0);
        for (int told = 0; told < 14; told++) {
            s.x.undo();
        }
        s.x.put(r, 1, 0, 1);
        s.tell("add", 1, Scene.at(r, 1, 1, 0), Scene.at(r, 0, 1, 0), Scene.constant(1));
        return s;
    }

    private static void nothingToRun() {
        Check.sentence("A RUN in order: how many ITEMS were done.");
        Check.due("a new object", new StrideTurns().run(), 0);
        Check.due("without statements", new Scene().turns(TURNS).x.run(), 0);
        Scene s = singles(0);
        Check.due("without turns", s.x.run(), 0);
        s.turns(1);
        Check.due("with one", s.x.run(), 1);
        s.turns(0);
        Check.due("with none again", s.x.run(), 0);
        endings(s);
        writers(s, 0, NONE, NONE);
        Check.due("count(6)", s.x.count(6), 0);
    }

    private static void mostItems() {
        Check.sentence("how many ITEMS were done");
        Scene s = new Scene().turns(TURNS);
        for (int k = 0; k < 5; k++) {
            s.row(k, 1, 24);
            s.tell("add", 5, Scene.at(k, 0, 0, 1), Scene.at(k, 0, 0, 1), Scene.constant(1));
        }
        Check.due("run()", s.x.run(), 250);
        Check.due("count(6)", s.x.count(6), 250);
        cells(s, 4, 10, 10, 10, 10, 10, 0);
    }

    private static void itemsWithNoFault() {
        Check.sentence("ITEMS that were done, with no FAULT");
        for (int n = 0; n <= 6; n++) {
            Scene s = new Scene().row(0, 1, n).turns(2);
            s.tell("copy", 5, Scene.at(0, 0, 0, 1), Scene.constant(4), Scene.constant(0));
            Check.due("run() with " + n + " cells", s.x.run(), 2 * Math.min(n, 5));
            Check.due("count(6)", s.x.count(6), 2 * Math.min(n, 5));
            faults(s, 0, n < 5 ? 2 : 0, 0);
            Check.due("mixed()", s.x.mixed(2, 0, 5, 0), 2 * Math.min(n, 5));
            faults(s, 0, n < 5 ? 2 : 0, 0);
        }
    }

    private static void turnsByFault() {
        Check.sentence("TURNS that ended by each FAULT");
        // turns 0 3 6 9 are gone, 1 4 7 outside, 2 5 8 over, each at its second item
        Scene s = new Scene().row(0, 1, 24, MAX).row(1, 1, 24).turns(TURNS);
        s.tell("copy", 1, Scene.at(1, 0, 1, 0), Scene.constant(4), Scene.constant(0));
        s.tell("copy", 2, Scene.at(5, 0, 0, 0), Scene.constant(0), Scene.constant(0));
        s.tell("copy", 2, Scene.at(1, 24, 0, 0), Scene.constant(0), Scene.constant(0));
        s.tell("sure", 2, Scene.at(1, 23, 0, 0), Scene.at(0, 0, 0, 0), Scene.constant(1));
        for (int k = 1; k <= 3; k++) {
            s.x.guard(k, 3, k - 1);
        }
        Check.due("run()", s.x.run(), 10);
        faults(s, 4, 3, 3);
        s.x.mixed(3, 1, 7, 0);
        faults(s, 4, 3, 3);
        s.x.put(0, 1, 0, 0);
        s.x.run();
        faults(s, 4, 3, 0);
        s.turns(1);
        s.x.run();
        faults(s, 1, 0, 0);
    }

    private static void turnsThatEnded() {
        Check.sentence("TURNS with ITEMS in the order in which they ended");
        Scene s = singles(TURNS);
        s.x.mixed(1, 2, 0, 0);
        endings(s, 9, 8, 7, 6, 5, 4, 3, 2, 1, 0);
        // turns that end by a fault at their first item have one, too
        s.row(0, 1, 3);
        Check.due("run()", s.x.run(), 3);
        endings(s, 0, 1, 2, 3, 4, 5, 6, 7, 8, 9);
        s.x.mixed(1, 2, 0, 0);
        endings(s, 9, 8, 7, 6, 5, 4, 3, 2, 1, 0);
    }

    private static void turnsWithoutItems() {
        Check.sentence("TURNS with ITEMS");
        Scene s = singles(TURNS);
        s.x.guard(0, 4, 1);
        s.x.run();
        endings(s, 1, 5, 9);
        s.x.mask(0, 5);
        s.x.run();
        endings(s);
        s.row(5, 4, TURNS, 0, 0, 0, 0, 0, 1);
        s.x.mixed(2, 2, 0, 0);
        endings(s, 5);
    }

    private static void writerLast() {
        Check.sentence("WRITER of a CELL: the TURN that wrote it (last");
        // each turn takes the rest of what is there: a serial row
        Scene s = new Scene().row(0, 1, 2, 900).turns(TURNS);
        s.tell("rem", 1, Scene.at(0, 0, 0, 0), Scene.at(0, 0, 0, 0), Scene.constant(60));
        Check.due("verdict(0)", s.x.verdict(0), 4);
        s.x.run();
        writers(s, 0, 9, NONE);
        s.x.mixed(1, 2, 0, 1);
        writers(s, 0, 0, NONE);
        s.x.mixed(2, 0, 0, 1);
        Check.due("the last that wrote it", s.x.writer(0, 0), s.x.ended(9));
        s.turns(1);
        Check.due("shared", s.x.verdict(0), 1);
        s.x.run();
        writers(s, 0, 0, NONE);
    }

    private static void writerGreatest() {
        Check.sentence("of GATHERED and COPIED ROWS the greatest of them");
        // right has five cells: turns 5 to 9 end ahead of writing
        Scene s = new Scene().row(0, 1, 1).row(1, 1, 5, 1, 2, 3, 4, 5).turns(TURNS);
        s.tell("add", 1, Scene.at(0, 0, 0, 0), Scene.at(0, 0, 0, 0), Scene.at(1, 0, 1, 0));
        Check.due("verdict(0)", s.x.verdict(0), 2);
        for (int deal = 0; deal <= 2; deal++) {
            s.x.mixed(1, deal, 0, 0);
            writers(s, 0, 4);
        }
        s.x.run();
        writers(s, 0, 4);
        Check.due("all of them", s.x.get(0, 0), 60);
    }

    private static void writerOfCopied() {
        Check.sentence("COPIED ROWS the greatest of them");
        Scene s = new Scene().row(0, 1, 2, 50).row(1, 1, TURNS, 0, 9, 0, 8, 0, 7, 0, 0, 0, 0).turns(TURNS);
        s.tell("pick", 1, Scene.at(0, 0, 0, 0), Scene.at(1, 0, 1, 0), Scene.constant(0));
        Check.due("verdict(0)", s.x.verdict(0), 3);
        for (int deal = 0; deal <= 2; deal++) {
            s.x.mixed(1, deal, 0, 0);
            writers(s, 0, 5, NONE);
            cells(s, 0, 7);
        }
    }

    private static void writerOfNewRows() {
        Check.sentence("NONE (a new ROW, one lost, has none)");
        Scene s = singles(3).row(1, 1, 3);
        writers(s, 0, NONE, NONE, NONE);
        s.x.run();
        writers(s, 0, 0, 1, 2, NONE);
        s.row(1, 1, 3);
        writers(s, 0, 0, 1, 2, NONE);
        writers(s, 1, NONE, NONE, NONE);
        s.row(0, 1, 24);
        writers(s, 0, NONE, NONE, NONE);
        s.x.run();
        s.x.lose(0);
        Check.due("one lost", s.x.writer(0, 0), Scene.NULL);
        s.row(0, 1, 24);
        writers(s, 0, NONE, NONE, NONE);
    }

    private static void latestRun() {
        Check.sentence("Of the latest RUN, as it was: ITEMS that were done");
        Scene s = singles(4);
        s.x.run();
        writers(s, 0, 0, 1, 2, 3);
        s.x.guard(0, 2, 1);
        s.x.run();
        Check.due("count(6)", s.x.count(6), 2);
        endings(s, 1, 3);
        writers(s, 0, NONE, 1, NONE, 3);
        s.x.mask(0, 5);
        s.x.mixed(4, 0, 0, 0);
        Check.due("count(6)", s.x.count(6), 0);
        endings(s);
        writers(s, 0, NONE, NONE, NONE, NONE);
    }

    private static void latestRunOfEachRow() {
        Check.sentence("WRITER of a CELL: the TURN that wrote it");
        Scene s = new Scene().turns(TURNS);
        for (int r = 0; r < 6; r++) {
            s.row(r, r < 4 ? r : 1, 24);
        }
        for (int k = 0; k < 5; k++) {
            s.tell("copy", 1, Scene.at(k, 23, 0, 0), Scene.constant(0), Scene.constant(0));
        }
        s.x.run();
        for (int r = 0; r < 5; r++) {
            Check.due("writer(" + r + ", 23)", s.x.writer(r, 23), 9);
            Check.due("writer(" + r + ", 22)", s.x.writer(r, 22), NONE);
        }
        s.x.refer(0, Scene.TARGET, 5);
        s.x.run();
        Check.due("writer(5, 23)", s.x.writer(5, 23), 9);
        Check.due("writer(0, 23)", s.x.writer(0, 23), NONE);
        s.turns(0);
        s.x.run();
        for (int r = 0; r < 6; r++) {
            Check.due("writer(" + r + ", 23)", s.x.writer(r, 23), NONE);
        }
    }

    private static void latestRunAsItWas() {
        Check.sentence("Of the latest RUN, as it was");
        Scene s = new Scene().row(0, 1, 3).turns(5);
        s.tell("copy", 1, Scene.at(0, 0, 1, 0), Scene.constant(6), Scene.constant(0));
        s.x.run();
        s.turns(0);
        s.x.put(0, 1, 0, 1);
        s.x.copy(0, 0, 0, 1, 2);
        s.x.place(0, 0, 9, 0, 0);
        s.x.undo();
        s.row(4, 1, 5);
        s.x.same(1, 0, 0, 0);
        s.x.mixed(0, 0, 0, 0);
        s.type("add");
        s.x.statement(1);
        Check.due("count(6)", s.x.count(6), 3);
        endings(s, 0, 1, 2, 3, 4);
        faults(s, 0, 2, 0);
        writers(s, 0, 0, 1, 2);
        s.x.lose(0);
        Check.due("count(6)", s.x.count(6), 3);
        faults(s, 0, 2, 0);
    }

    private static void beforeAnyRun() {
        Check.sentence("Of the latest RUN how many TURNS ended by a FAULT (0 before any).");
        Scene s = singles(3);
        faults(s, 0, 0, 0);
        endings(s);
        Check.due("count(6)", s.x.count(6), 0);
        s.x.same(2, 0, 0, 0);
        faults(s, 0, 0, 0);
        endings(s);
        Check.due("count(6) behind same()", s.x.count(6), 0);
        writers(s, 0, NONE, NONE, NONE);
    }

    private static void sameAsInOrder() {
        Check.sentence("Whether a MIXED RUN would leave the same in all CELLS as a RUN in order");
        Scene s = singles(TURNS);
        for (int workers = 1; workers <= 4; workers++) {
            for (int deal = 0; deal <= 2; deal++) {
                Check.due("same()", s.x.same(workers, deal, 63, 0), 1);
                Check.due("same() forced", s.x.same(workers, deal, 0, 1), 1);
            }
        }
        Check.due("without turns", singles(0).x.same(4, 2, 63, 0), 1);
        Check.due("a new object", new StrideTurns().same(4, 1, 1, 0), 1);
    }

    private static void notTheSameCells() {
        Check.sentence("the same in all CELLS as a RUN in order");
        for (int r = 0; r < 6; r++) {
            for (int cell : new int[] {0, 23}) {
                // in order the cell is doubled and then 1 more; backwards the other way round
                Scene s = new Scene().row(r, 1, 24, 5).turns(2);
                s.x.put(r, 1, 23, 5);
                s.tell("mul", 1, Scene.at(r, cell, 0, 0), Scene.at(r, cell, 0, 0), Scene.constant(2));
                s.tell("add", 1, Scene.at(r, cell, 0, 0), Scene.at(r, cell, 0, 0), Scene.constant(1));
                s.x.guard(0, 2, 0);
                s.x.guard(1, 2, 1);
                Check.due("same() in order", s.x.same(1, 0, 0, 1), 1);
                Check.due("same() backwards", s.x.same(1, 2, 0, 1), 0);
                s.x.place(0, Scene.RIGHT, 1, 0, 0);
                Check.due("same() with a product that changes nothing", s.x.same(1, 2, 0, 1), 1);
            }
        }
        for (int form = 0; form < 4; form++) {
            // a difference by a bit: the float next to another one
            Scene s = new Scene().row(0, form, 1, 8).row(1, form, 2, 8, 9).turns(2);
            s.tell("copy", 1, Scene.at(0, 0, 0, 0), Scene.at(1, 0, 1, 0), Scene.at(0, 0, 0, 0));
            s.tell("rem", 1, Scene.at(0, 0, 0, 0), Scene.at(0, 0, 0, 0), Scene.constant(60));
            s.x.guard(1, 2, 0);
            Check.due("a copied row of form " + form, s.x.same(1, 2, 0, 1), 1);
            s.x.guard(0, 2, 0);
            s.x.guard(1, 2, 1);
            s.x.place(1, Scene.RIGHT, 1, 0, 0);
            Check.due("a serial row of form " + form, s.x.same(1, 2, 0, 1), 0);
        }
    }

    private static void notTheSameItems() {
        Check.sentence("a RUN in order, with as many ITEMS");
        // turn 0 makes the sum of turn 1 over, behind which that has one item less to do
        Scene s = new Scene().row(0, 1, 1).row(1, 1, 1, 1).row(2, 1, 1, MAX).turns(2);
        s.tell("copy", 1, Scene.at(0, 0, 0, 0), Scene.at(2, 0, 0, 0), Scene.constant(0));
        s.tell("sure", 1, Scene.at(1, 0, 0, 0), Scene.at(0, 0, 0, 0), Scene.constant(1));
        s.x.guard(0, 2, 0);
        s.x.guard(1, 2, 1);
        Check.due("same() backwards", s.x.same(1, 2, 0, 1), 0);
        Check.due("run()", s.x.run(), 1);
        cells(s, 0, MAX);
        cells(s, 1, 1);
        s.x.put(0, 1, 0, 0);
        Check.due("mixed()", s.x.mixed(1, 2, 0, 1), 2);
        cells(s, 0, MAX);
        cells(s, 1, 1);
    }

    /** Turns 0 and 1, of which the first makes the sum of the second over; behind the sums one of them copies to a target. */
    private static Scene crossing(int turn, int[] target) {
        Scene s = new Scene().row(0, 1, 2).row(1, 1, 3, 1, 1).row(2, 1, 1, MAX).turns(2);
        s.tell("copy", 1, Scene.at(0, 0, 0, 0), Scene.at(2, 0, 0, 0), Scene.constant(0));
        s.tell("copy", 1, Scene.at(0, 1, 0, 0), Scene.at(2, 0, 0, 0), Scene.constant(0));
        s.tell("sure", 1, Scene.at(1, 0, 0, 0), Scene.at(0, 0, 0, 0), Scene.constant(1));
        s.tell("sure", 1, Scene.at(1, 1, 0, 0), Scene.at(0, 1, 0, 0), Scene.constant(1));
        s.tell("copy", 1, target, Scene.constant(0), Scene.constant(0));
        int[] turns = {0, 1, 1, 0, turn};
        for (int k = 0; k < 5; k++) {
            s.x.guard(k, 2, turns[k]);
        }
        return s;
    }

    /** In order turn 1 is over, backwards turn 0, and all cells come to be the same. */
    private static void crossed(Scene s, int items, int itemsBackwards, int gone, int outside) {
        Check.due("same() backwards", s.x.same(1, 2, 0, 1), 0);
        Check.due("same() in order", s.x.same(1, 0, 0, 1), 1);
        Check.due("run()", s.x.run(), items);
        faults(s, 0, 0, 1);
        cells(s, 0, MAX, MAX);
        cells(s, 1, 1, 1, 0);
        s.row(0, 1, 2);
        Check.due("mixed()", s.x.mixed(1, 2, 0, 1), itemsBackwards);
        faults(s, gone, outside, 1);
        cells(s, 0, MAX, MAX);
        cells(s, 1, 1, 1, 0);
    }

    private static void notTheSameItemsAlone() {
        Check.sentence("with as many ITEMS");
        // turn 0 has one item more behind its sum
        crossed(crossing(0, Scene.at(1, 2, 0, 0)), 4, 3, 0, 0);
    }

    private static void notTheSameFaults() {
        Check.sentence("and TURNS ended by each FAULT: 1, 0.");
        // in order turns 1 and 2 are over at their last item, backwards turn 0 ahead of its last two: 5 items both ways
        Scene s = new Scene().row(0, 1, 2).row(1, 1, 3, 1, 1).row(2, 1, 1, MAX).row(5, 4, 3, 0, 1, 1).turns(3);
        s.tell("copy", 1, Scene.at(0, 0, 0, 0), Scene.at(2, 0, 0, 0), Scene.constant(0));
        s.tell("copy", 1, Scene.at(0, 1, 0, 0), Scene.at(2, 0, 0, 0), Scene.constant(0));
        s.tell("sure", 1, Scene.at(1, 0, 0, 0), Scene.at(0, 0, 0, 0), Scene.constant(1));
        s.tell("sure", 1, Scene.at(1, 1, 0, 0), Scene.at(0, 1, 0, 0), Scene.constant(1));
        s.tell("copy", 1, Scene.at(1, 2, 0, 0), Scene.constant(0), Scene.constant(0));
        s.x.guard(0, 3, 0);
        s.x.mask(1, 5);
        s.x.mask(2, 5);
        s.x.guard(3, 3, 0);
        s.x.guard(4, 3, 0);
        Check.due("same() backwards", s.x.same(1, 2, 0, 1), 0);
        Check.due("same() in order", s.x.same(1, 0, 0, 1), 1);
        Check.due("run()", s.x.run(), 5);
        faults(s, 0, 0, 2);
        cells(s, 0, MAX, MAX);
        cells(s, 1, 1, 1, 0);
        s.row(0, 1, 2);
        Check.due("mixed()", s.x.mixed(1, 2, 0, 1), 5);
        faults(s, 0, 0, 1);
        cells(s, 0, MAX, MAX);
        cells(s, 1, 1, 1, 0);
    }

    private static void notTheSameKindOfFaults() {
        Check.sentence("TURNS ended by each FAULT: 1, 0.");
        // turn 1 has an item behind its sum that is gone, or outside: as many items both ways
        crossed(crossing(1, Scene.at(5, 0, 0, 0)), 3, 3, 1, 0);
        crossed(crossing(1, Scene.at(0, 2, 0, 0)), 3, 3, 0, 1);
    }

    private static void sameThoughElse() {
        Check.sentence("would leave the same in all CELLS");
        // neither the order in which turns end nor who wrote a cell is asked
        Scene s = new Scene().row(0, 1, 1).turns(3);
        s.tell("copy", 1, Scene.at(0, 0, 0, 0), Scene.constant(5), Scene.constant(0));
        s.tell("rem", 1, Scene.at(0, 0, 0, 0), Scene.at(0, 0, 0, 0), Scene.constant(60));
        s.x.guard(0, 3, 0);
        Check.due("verdict(0)", s.x.verdict(0), 4);
        Check.due("same()", s.x.same(1, 2, 0, 1), 1);
        s.x.mixed(1, 2, 0, 1);
        writers(s, 0, 0);
        endings(s, 2, 1, 0);
        s.x.run();
        writers(s, 0, 2);
        endings(s, 0, 1, 2);
    }

    private static void nothingStays() {
        Check.sentence("(Nothing of it stays.)");
        Scene s = new Scene().row(0, 1, 4, 1).row(1, 2, 3, 8, 9).row(2, 1, 1, MAX).row(3, 3, 2, 7).row(5, 4, 3, 1, 1, 1).turns(3);
        s.tell("add", 1, Scene.at(0, 1, 1, 0), Scene.at(0, 0, 1, 0), Scene.constant(1));
        s.tell("copy", 1, Scene.at(1, 0, 0, 0), Scene.at(1, 1, 0, 0), Scene.constant(1));
        s.tell("sure", 1, Scene.at(3, 0, 0, 0), Scene.at(2, 0, 0, 0), Scene.at(0, 3, 0, 0));
        s.type("ad");
        for (int ran = 0; ran < 2; ran++) {
            long before = s.x.digest();
            for (int deal = 0; deal <= 2; deal++) {
                s.x.same(1 + deal, deal, 9, 1);
            }
            Check.due("digest()", s.x.digest(), before);
            Check.due("what may be undone", s.x.count(2), 20);
            Check.due("count(8)", s.x.count(8), 0);
            cells(s, 0, 1, ran == 0 ? 0 : 2, ran == 0 ? 0 : 3, ran == 0 ? 0 : 4);
            s.x.run();
        }
    }

    private static void sameRefused() {
        Check.sentence("(Nothing of it stays.) BAD; NOT, as with mixed().");
        Scene s = new Scene().row(0, 1, 4, 1).turns(3);
        s.tell("add", 1, Scene.at(0, 1, 1, 0), Scene.at(0, 0, 1, 0), Scene.constant(1));
        Check.due("not parallel", s.x.same(4, 2, 63, 0), NOT);
        Check.due("a bad number of workers", s.x.same(5, 2, 63, 0), BAD);
        Check.due("a bad deal", s.x.same(4, 3, 63, 0), BAD);
        Check.due("a bad seed", s.x.same(4, 2, 64, 0), BAD);
        Check.due("a bad force", s.x.same(4, 2, 63, 2), BAD);
        Check.due("forced", s.x.same(1, 1, 63, 1), 1);
    }

    private static void faultsRefused() {
        Check.sentence("ended by a FAULT (0 before any). BAD.");
        Scene s = singles(2);
        for (int kind : Scene.beyond(0, 2)) {
            Check.due("faults(" + kind + ")", s.x.faults(kind), BAD);
        }
        s.x.lose(0);
        s.x.run();
        faults(s, 2, 0, 0);
        for (int kind : Scene.beyond(0, 2)) {
            Check.due("faults(" + kind + ")", s.x.faults(kind), BAD);
        }
    }

    private static void endedRefused() {
        Check.sentence("Of the latest RUN the p-th TURN that ended (0 to 9; NONE). BAD.");
        for (int turns = 0; turns <= TURNS; turns++) {
            Scene s = singles(turns);
            s.x.run();
            for (int p = 0; p < TURNS; p++) {
                Check.due("ended(" + p + ") of " + turns, s.x.ended(p), p < turns ? p : NONE);
            }
            for (int p : Scene.beyond(0, 9)) {
                Check.due("ended(" + p + ")", s.x.ended(p), BAD);
            }
        }
    }

    private static void writerRefused() {
        Check.sentence("WRITER; NONE. BAD; NULL; INDEX.");
        Scene s = new Scene().row(0, 4, 2).row(1, 1, 0);
        for (int r : Scene.beyond(0, 5)) {
            Check.due("writer(" + r + ", 0)", s.x.writer(r, 0), BAD);
        }
        Check.due("a missing row", s.x.writer(5, 0), Scene.NULL);
        Check.due("a cell of truths", s.x.writer(0, 1), NONE);
        Check.due("no cell of truths", s.x.writer(0, 2), Scene.INDEX);
        Check.due("no cell", s.x.writer(1, 0), Scene.INDEX);
        Check.due("no cell below 0", s.x.writer(0, -1), Scene.INDEX);
    }

    private static void countOfWhatIsTold() {
        Check.sentence("0 TURNS, 1 STATEMENTS, 2 how much may be UNDONE, 3 bytes of THE TEXT");
        Scene s = new Scene();
        for (int what = 0; what <= 3; what++) {
            Check.due("count(" + what + ") of a new object", s.x.count(what), 0);
        }
        s.turns(TURNS);
        for (int k = 0; k < 5; k++) {
            s.state("or", 1);
        }
        s.type("sixth");
        int[] due = {TURNS, 5, 6, 5};
        for (int what = 0; what <= 3; what++) {
            Check.due("count(" + what + ")", s.x.count(what), due[what]);
        }
    }

    private static void countOfRows() {
        Check.sentence("4 whether THE LOOP is PARALLEL (1, 0), 5 SERIAL ROWS, 6 ITEMS of the latest RUN (0 before any), "
                + "7 ROWS that are MISSING");
        Scene s = new Scene().turns(2);
        for (int r = 0; r < 6; r++) {
            Check.due("count(7)", s.x.count(7), 6 - r);
            s.row(r, 1, r);
        }
        Check.due("count(7)", s.x.count(7), 0);
        Check.due("count(4)", s.x.count(4), 1);
        Check.due("count(5)", s.x.count(5), 0);
        Check.due("count(6)", s.x.count(6), 0);
        for (int r = 1; r < 6; r++) {
            s.tell("rem", 1, Scene.at(r, 0, 0, 0), Scene.at(r, 0, 0, 0), Scene.constant(1));
            Check.due("count(4)", s.x.count(4), 0);
            Check.due("count(5)", s.x.count(5), r);
        }
        s.x.run();
        Check.due("count(6)", s.x.count(6), 10);
    }

    private static void countOfFindings() {
        Check.sentence("8 the number of the latest FINDING (0 before any)");
        Scene s = new Scene().row(0, 1, 2).row(1, 2, 2);
        Check.due("before any", s.x.count(8), 0);
        s.x.row(0, 1, 25);
        s.x.statement(1);
        s.x.undo();
        s.x.would(0, 9);
        Check.due("other refusals are none", s.x.count(8), 0);
        s.x.get(0, 2);
        Check.due("INDEX", s.x.count(8), 2);
        s.x.would(5, 0);
        Check.due("NULL", s.x.count(8), 1);
        s.x.put(0, 2, 0, 0);
        Check.due("CAST", s.x.count(8), 3);
        s.x.copy(0, 0, 1, 0, 0);
        Check.due("STORE", s.x.count(8), 4);
        s.x.row(0, 1, -1);
        Check.due("SIZE", s.x.count(8), 5);
        s.x.writer(0, 2);
        Check.due("INDEX", s.x.count(8), 2);
        s.x.row(0, 5, 0);
        s.x.run();
        Check.due("it stays", s.x.count(8), 2);
    }

    private static void countRefused() {
        Check.sentence("8 the number of the latest FINDING (0 before any). BAD.");
        StrideTurns x = new StrideTurns();
        for (int what : Scene.beyond(0, 8)) {
            Check.due("count(" + what + ")", x.count(what), BAD);
        }
    }

    /** Makes a scene anew, as often as an object has been asked enough. */
    private interface Maker {
        Scene make();
    }

    /** The digest by what the other calls tell, in the order in which the document names them. */
    private static long digestOf(Maker maker) {
        long h = withStatements(maker.make().x);
        h = withSets(h, maker.make().x);
        for (int r = 0; r < 6; r++) {
            h = withCells(h, maker.make().x, r);
        }
        StrideTurns x = maker.make().x;
        for (int kind = 0; kind < 3; kind++) {
            h = 31 * h + x.faults(kind);
        }
        for (int p = 0; p <= 9; p++) {
            h = 31 * h + x.ended(p);
        }
        return h;
    }

    private static long withStatements(StrideTurns x) {
        long h = 17;
        for (int what = 0; what <= 7; what++) {
            h = 31 * h + x.count(what);
        }
        int statements = x.count(1);
        for (int k = 0; k < statements; k++) {
            for (int what = 0; what <= 6; what++) {
                h = 31 * h + x.info(k, what);
            }
            for (int which = 0; which < 3; which++) {
                for (int what = 0; what <= 3; what++) {
                    h = 31 * h + x.reference(k, which, what);
                }
                for (int part = 0; part < 3 && x.count(0) > 0 && x.reference(k, which, 0) != NONE; part++) {
                    h = 31 * h + x.section(3 * k + which, 0, part);
                }
            }
            for (int r = 0; r < 6; r++) {
                h = 31 * h + x.kinds(k, r);
            }
        }
        return h;
    }

    private static long withSets(long before, StrideTurns x) {
        long h = before;
        int turns = x.count(0);
        for (int r = 0; r < 6; r++) {
            h = 31 * h + x.verdict(r);
            for (int part = 0; part < 3; part++) {
                h = 31 * h + x.witness(r, part);
            }
            for (int set = 0; set < 4; set++) {
                h = 31 * h + x.many(set, r, NONE);
                h = 31 * h + x.pieces(set, r, NONE);
                for (int i = 0; i < turns; i++) {
                    h = 31 * h + x.many(set, r, i);
                }
            }
        }
        return h;
    }

    private static long withCells(long before, StrideTurns x, int r) {
        long h = before;
        for (int i = 0; i < 24; i++) {
            long cell = x.get(r, i);
            if (cell == Scene.refused(Scene.NULL) || cell == Scene.refused(Scene.INDEX)) {
                return h;
            }
            h = 31 * (31 * (31 * (31 * h + cell) + x.writer(r, i)) + x.last(1, r, i)) + x.last(2, r, i);
        }
        return h;
    }

    private static void digested(String what, Maker maker) {
        Check.due("digest() " + what, maker.make().x.digest(), digestOf(maker));
    }

    private static void digestOfNothing() {
        Check.sentence("h is 17; h becomes 31 h and each of");
        digested("of a new object", Scene::new);
        digested("of a row of no cells", () -> new Scene().row(5, 3, 0));
        digested("of rows alone", () -> new Scene().row(0, 0, 24).row(5, 4, 24));
        digested("of turns alone", () -> new Scene().turns(TURNS));
        digested("of a text alone", () -> {
            Scene s = new Scene();
            s.type("times");
            return s;
        });
    }

    /** All of six rows, five statements and ten turns. */
    private static Scene much() {
        Scene s = new Scene().row(0, 1, 24, 5, -6, 7, MAX).row(1, 0, 24, 3, -4).row(2, 2, 24, 9, -9).row(3, 3, 24, -31, 1).turns(TURNS);
        s.row(4, 4, 9, 1, 0, 1, 1, 0, 1, 1, 1, 1).row(5, 1, 6, 1, 2, 3);
        s.tell("add", 3, Scene.at(0, 4, 1, 2), Scene.at(0, 0, 1, 1), Scene.at(1, 20, -1, 0));
        s.tell("max", 2, Scene.at(2, 0, 0, 1), Scene.at(2, 0, 0, 1), Scene.at(1, 0, 1, 0));
        s.tell("sure", 1, Scene.at(5, 5, 0, 0), Scene.at(0, 3, 0, 0), Scene.at(5, 0, 1, 0));
        s.tell("copy", 4, Scene.at(3, 0, 2, 1), Scene.at(2, 0, 1, 0), Scene.at(0, 0, 0, 0));
        s.tell("pick", 1, Scene.at(1, 23, 0, 0), Scene.at(3, 0, 0, 0), Scene.constant(-5));
        s.x.guard(2, 3, 1);
        s.x.mask(3, 4);
        return s;
    }

    private static void digestOfMuch() {
        Check.sentence("(of each thing all that is told of it, then of the next one)");
        digested("ahead of a run", EdgesRunsTest::much);
        digested("behind a run", () -> {
            Scene s = much();
            s.x.run();
            return s;
        });
        digested("behind a mixed run", () -> {
            Scene s = much();
            s.x.mixed(3, 2, 17, 1);
            return s;
        });
        digested("with a row lost", () -> {
            Scene s = much();
            s.x.lose(2);
            s.x.run();
            return s;
        });
    }

    private static Scene ofReferences(int turns, int kinds) {
        Scene s = new Scene().turns(turns);
        s.state(kinds % 2 == 0 ? "copy" : "add", 3);
        s.x.place(0, kinds % 3, 11, 1, -2);
        for (int of = 1; of < 3; of++) {
            if ((kinds >> of & 1) == 1) {
                s.x.refer(0, of, 3);
            }
        }
        return s;
    }

    private static void digestWithoutTurns() {
        Check.sentence("and, if it is to a ROW and there are TURNS, section(it, 0, 0 to 2)");
        for (int n = 0; n < 24; n++) {
            int turns = n % 3;
            int kinds = n / 3;
            digested("of " + turns + " turns", () -> ofReferences(turns, kinds));
        }
    }

    /** Bits of doubles below 0, of floats below 0, and ints at both ends, each in another place. */
    private static Scene atBothEnds() {
        return new Scene().row(0, 3, 3, -1, Integer.MIN_VALUE, MAX).row(1, 2, 3, -1, Integer.MIN_VALUE, MAX)
                .row(2, 1, 2, Integer.MIN_VALUE, MAX).row(3, 0, 2, 32768, 32767).row(5, 4, 2, 1, 0);
    }

    private static void digestWraps() {
        Check.sentence("as longs that wrap");
        digested("of cells at both ends", EdgesRunsTest::atBothEnds);
        Scene s = atBothEnds();
        long before = s.x.digest();
        s.x.put(0, 3, 0, 1);
        // the sign alone is the highest bit, and stays it, as often as it is taken 31 times
        Check.due("the highest bit alone", s.x.digest(), before - Long.MIN_VALUE);
    }

    private static void lastCalls() {
        Check.sentence("An object is used for at most 512 calls after it has been made");
        Scene s = new Scene();
        int calls = 0;
        for (int r = 0; r < 6; r++) {
            s.x.row(r, 1, 24);
            calls++;
        }
        s.x.turns(TURNS);
        calls++;
        for (; calls < LIFE - 1; calls++) {
            // what may be undone and what is found are told in turns
            if (calls % 3 == 0) {
                s.x.turns(calls % 10);
            } else if (calls % 3 == 1) {
                s.x.put(calls % 6, 1, calls % 24, calls);
            } else {
                s.x.get(calls % 6, 24);
            }
        }
        int last = LIFE - 2;
        while (last % 3 != 1) {
            last--;
        }
        Check.due("the 512th call", s.x.get(last % 6, last % 24), last);
    }
}
