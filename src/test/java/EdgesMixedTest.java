import java.util.ArrayList;
import java.util.Arrays;
import java.util.List;

/** The edges that the document names of mixed runs, a method a sentence: workers, deals, steps, rows by their verdicts. */
public final class EdgesMixedTest {
    private static final int NONE = StrideTurns.NONE, BAD = StrideTurns.BAD, NOT = StrideTurns.NOT, TURNS = 10;
    private static final int[] SEEDS = {0, 1, 2, 3, 11, 31, 32, 62, 63};

    public static void main(String[] args) {
        workersThereAre();
        dealModulo();
        dealByShares();
        sharesRoundedUp();
        dealBackwards();
        stepsOfItems();
        turnsPassedOver();
        workersLeft();
        seedsWrap();
        tillNoneIsLeft();
        faultsAreSteps();
        sharedRows();
        readOnlyRows();
        serialRows();
        copiedReadsItsOwn();
        copiedReadsWhatWasThere();
        copiedWithAPickThatDoesNot();
        copiedByTheGreatest();
        copiedLast();
        copiedInEachRow();
        gatheredInEachRow();
        copiedThoughEnded();
        gatheredInAnyOrder();
        gatheredWraps();
        mixedRefused();
        notParallel();
        forced();
        Check.end();
    }

    /** Turns with so many items each (0 to 5): by statements of 1, 1 and 3 items under masks. */
    private static Scene turnsOf(int... items) {
        Scene s = new Scene().row(0, 1, 24).turns(items.length);
        int[] counts = {1, 1, 3};
        int[][] truths = new int[3][items.length];
        for (int i = 0; i < items.length; i++) {
            truths[2][i] = items[i] >= 3 ? 1 : 0;
            truths[0][i] = items[i] % 3 >= 1 ? 1 : 0;
            truths[1][i] = items[i] % 3 == 2 ? 1 : 0;
        }
        for (int k = 0; k < 3; k++) {
            s.tell("copy", counts[k], Scene.at(0, 0, 0, 1), Scene.constant(k), Scene.constant(0));
            s.row(3 + k, 4, items.length, truths[k]);
            s.x.mask(k, 3 + k);
        }
        return s;
    }

    /** The same, done by lists: a worker's list has each turn as often as it has items. */
    private static List<Integer> ends(int workers, int deal, int seed, int... items) {
        int n = items.length;
        List<List<Integer>> lists = new ArrayList<>();
        for (int w = 0; w < workers; w++) {
            List<Integer> list = new ArrayList<>();
            for (int t = 0; t < n; t++) {
                int turn = deal == 2 ? n - 1 - t : t;
                int of = deal == 1 ? turn / ((n + workers - 1) / workers) : turn % workers;
                for (int j = 0; of == w && j < items[turn]; j++) {
                    list.add(turn);
                }
            }
            lists.add(list);
        }
        List<Integer> ended = new ArrayList<>();
        int state = seed;
        lists.removeIf(List::isEmpty);
        while (!lists.isEmpty()) {
            List<Integer> list = lists.get(state % lists.size());
            state = (13 * state + 7) % 64;
            int turn = list.remove(0);
            if (list.isEmpty() || list.get(0) != turn) {
                ended.add(turn);
            }
            lists.removeIf(List::isEmpty);
        }
        return ended;
    }

    private static void endings(Scene s, String what, List<Integer> due) {
        for (int p = 0; p < TURNS; p++) {
            Check.due(what + ": ended(" + p + ")", s.x.ended(p), p < due.size() ? due.get(p) : NONE);
        }
    }

    private static void endings(Scene s, String what, int... due) {
        List<Integer> all = new ArrayList<>();
        for (int turn : due) {
            all.add(turn);
        }
        endings(s, what, all);
    }

    private static int[] times(int turns, int items) {
        int[] all = new int[turns];
        Arrays.fill(all, items);
        return all;
    }

    /** All numbers of workers and some seeds, by a deal. */
    private static void deal(int deal, int... items) {
        int all = 0;
        for (int of : items) {
            all += of;
        }
        for (int workers = 1; workers <= 4; workers++) {
            Scene s = turnsOf(items);
            for (int seed : SEEDS) {
                String what = "mixed(" + workers + ", " + deal + ", " + seed + ", 0) of " + items.length;
                Check.due(what, s.x.mixed(workers, deal, seed, 0), all);
                endings(s, what, ends(workers, deal, seed, items));
            }
        }
    }

    private static void workersThereAre() {
        Check.sentence("A MIXED RUN has W WORKERS (1 to 4)");
        Scene s = turnsOf(1, 1, 1, 1, 1);
        for (int workers : Scene.beyond(1, 4)) {
            Check.due("mixed(" + workers + ", 0, 0, 0)", s.x.mixed(workers, 0, 0, 0), BAD);
            Check.due("same(" + workers + ", 0, 0, 0)", s.x.same(workers, 0, 0, 0), BAD);
        }
        // seeds 3, 46, 29: of four the last, of 0, 1, 2 the second, of 0, 2 the second; then 0 is alone
        s.x.mixed(1, 0, 3, 0);
        endings(s, "one", 0, 1, 2, 3, 4);
        s.x.mixed(4, 0, 3, 0);
        endings(s, "four", 3, 1, 2, 0, 4);
    }

    private static void dealModulo() {
        Check.sentence("by DEAL 0 TURN i is of WORKER i modulo W");
        for (int n = 0; n <= TURNS; n++) {
            deal(0, times(n, 1));
        }
        deal(0, times(TURNS, 5));
    }

    private static void dealByShares() {
        Check.sentence("by 1 of WORKER i by K, cut, where K is N by W, rounded up");
        for (int n = 0; n <= TURNS; n++) {
            deal(1, times(n, 1));
        }
        deal(1, times(TURNS, 5));
    }

    private static void sharesRoundedUp() {
        Check.sentence("where K is N by W, rounded up");
        // up to 4 turns K is 1: seeds 1, 20, 11 take of four 1, of 0, 2, 3 the last, of 0, 2 the last
        int[][] due = {{}, {0}, {1, 0}, {1, 0, 2}, {1, 3, 2, 0}};
        for (int n = 0; n < due.length; n++) {
            Scene s = turnsOf(times(n, 1));
            Check.due("mixed(4, 1, 1, 0) of " + n, s.x.mixed(4, 1, 1, 0), n);
            endings(s, "of " + n, due[n]);
        }
        // of 5 turns by 4 workers K is 2, and worker 3 has none: of 0 1, 2 3, 4 seeds 2, 33, 52 take the third, second, first
        Scene s = turnsOf(1, 1, 1, 1, 1);
        s.x.mixed(4, 1, 2, 0);
        endings(s, "of 5", 4, 2, 0, 3, 1);
        // of 9 turns by 4 workers K is 3: 0 1 2, 3 4 5, 6 7 8; seeds 2 33 52 43 54 5 8, then 47 of the first two
        s = turnsOf(times(9, 1));
        s.x.mixed(4, 1, 2, 0);
        endings(s, "of 9", 6, 0, 3, 4, 1, 7, 8, 5, 2);
    }

    private static void dealBackwards() {
        Check.sentence("by 2 as by 0, but each WORKER does its TURNS from the last to the first");
        for (int n = 0; n <= TURNS; n++) {
            deal(2, times(n, 1));
        }
        deal(2, times(TURNS, 5));
        Scene s = turnsOf(times(TURNS, 1));
        s.x.mixed(1, 2, 9, 0);
        endings(s, "one worker", 9, 8, 7, 6, 5, 4, 3, 2, 1, 0);
        for (int deal : Scene.beyond(0, 2)) {
            Check.due("mixed(1, " + deal + ", 0, 0)", s.x.mixed(1, deal, 0, 0), BAD);
        }
        s.x.run();
        endings(s, "a run in order behind it", 0, 1, 2, 3, 4, 5, 6, 7, 8, 9);
    }

    private static void stepsOfItems() {
        Check.sentence("A STEP of a WORKER is an ITEM, the next one");
        for (int deal = 0; deal <= 2; deal++) {
            deal(deal, 5, 1, 4, 2, 3, 1, 5, 3, 2, 4);
            deal(deal, 1, 5, 1, 5, 1, 5, 1, 5, 1, 5);
        }
        // of two workers with 2 items and 1, by seeds 0, 7, 34: 0, then 1 is done, then 0
        Scene s = turnsOf(2, 1);
        s.x.mixed(2, 0, 0, 0);
        endings(s, "2 and 1", 1, 0);
    }

    private static void turnsPassedOver() {
        Check.sentence("(TURNS with no STATEMENT DONE are passed over)");
        for (int deal = 0; deal <= 2; deal++) {
            deal(deal, 0, 1, 0, 2, 0, 0, 3, 0, 1, 0);
            deal(deal, 0, 0, 0, 0, 0, 0, 0, 0, 0, 1);
            deal(deal, 1, 0, 0, 0, 0, 0, 0, 0, 0, 0);
            deal(deal, times(TURNS, 0));
        }
        // worker 0 has turns 0 and 2, with none done: worker 1 is alone from the first step on
        Scene s = turnsOf(0, 1, 0, 1);
        s.x.mixed(2, 0, 0, 0);
        endings(s, "worker 0 has none", 1, 3);
    }

    private static void workersLeft() {
        Check.sentence("Of WORKERS that have an ITEM left, C of them, the one does a STEP that is, by number, the (SEED modulo C)-th, 0 on");
        // of 0, 1, 2, 3 with an item each: seed 5 is modulo 4 the second; 8 of 0, 2, 3 the third; 47 of 0, 2 the second; then 0
        Scene s = turnsOf(1, 1, 1, 1);
        s.x.mixed(4, 0, 5, 0);
        endings(s, "seed 5", 1, 3, 2, 0);
        for (int deal = 0; deal <= 2; deal++) {
            deal(deal, 5, 1, 1, 1);
            deal(deal, 1, 1, 1, 5);
            deal(deal, 0, 4, 0, 1);
        }
    }

    private static void seedsWrap() {
        Check.sentence("SEED becomes 13 SEED and 7, modulo 64");
        // 63 58 57 44 3 46 29 0 7 34: of two workers the second, first, second, first, second, first ..
        Scene s = turnsOf(times(TURNS, 1));
        s.x.mixed(2, 0, 63, 0);
        endings(s, "seed 63", 1, 0, 3, 2, 5, 4, 7, 6, 9, 8);
        // of three: 63 0, 58 1, 57 0, 44 2, 3 0, 46 1, 29 2, 0 0: worker 0 has 0 3 6 9, 1 has 1 4 7, 2 has 2 5 8
        s.x.mixed(3, 0, 63, 0);
        endings(s, "seed 63 of three", 0, 1, 3, 2, 6, 4, 5, 9, 8, 7);
        for (int seed : Scene.beyond(0, 63)) {
            Check.due("mixed(1, 0, " + seed + ", 0)", s.x.mixed(1, 0, seed, 0), BAD);
            Check.due("same(1, 0, " + seed + ", 0)", s.x.same(1, 0, seed, 0), BAD);
        }
    }

    private static void tillNoneIsLeft() {
        Check.sentence("till none has one left");
        Scene s = new Scene().turns(TURNS);
        for (int k = 0; k < 5; k++) {
            s.row(k, 1, 24);
            s.tell("add", 5, Scene.at(k, 0, 0, 1), Scene.at(k, 0, 0, 1), Scene.constant(1));
        }
        for (int deal = 0; deal <= 2; deal++) {
            Check.due("as many items as there may be", s.x.mixed(4, deal, 63, 0), 250);
            Check.due("the last turn that ended", s.x.ended(9) >= 0 ? 1 : 0, 1);
        }
        Check.due("what all of them did", s.x.get(4, 4), 30);
        Check.due("without turns", turnsOf().x.mixed(4, 1, 63, 0), 0);
        Check.due("without statements", new Scene().turns(3).x.mixed(4, 1, 63, 0), 0);
    }

    private static void faultsAreSteps() {
        Check.sentence("A STEP of a WORKER is an ITEM");
        // turn 0 ends at its first item, which has no left; by seeds 0, 7, 34, 1 worker 0 has steps 1 and 3, and worker 1 the others
        Scene s = new Scene().row(0, 1, 24).row(5, 4, 4, 1).turns(4);
        s.tell("copy", 3, Scene.at(0, 0, 0, 0), Scene.at(4, 0, 0, 0), Scene.constant(0));
        s.tell("copy", 1, Scene.at(0, 0, 0, 0), Scene.constant(3), Scene.constant(0));
        s.x.mask(0, 5);
        Check.due("items", s.x.mixed(2, 0, 0, 0), 3);
        endings(s, "seed 0", 0, 1, 2, 3);
        Check.due("items", s.x.mixed(2, 0, 1, 0), 3);
        // seeds 1, 20, 11, 22: worker 1, 0 with the fault, 1, then 0 alone
        endings(s, "seed 1", 1, 0, 3, 2);
        Check.due("faults(0)", s.x.faults(0), 1);
    }

    private static void sharedRows() {
        Check.sentence("SHARED and SERIAL ROWS, and those READ ONLY, are read and written as they are");
        Scene s = new Scene().row(0, 1, TURNS).row(1, 1, TURNS, 1, 2, 3, 4, 5, 6, 7, 8, 9, 10).turns(TURNS);
        s.tell("mul", 1, Scene.at(0, 0, 1, 0), Scene.at(1, 0, 1, 0), Scene.at(1, 9, -1, 0));
        s.tell("add", 1, Scene.at(0, 0, 1, 0), Scene.at(0, 0, 1, 0), Scene.at(0, 0, 1, 0));
        Check.due("verdict(0)", s.x.verdict(0), 1);
        Check.due("verdict(1)", s.x.verdict(1), 0);
        s.x.mixed(4, 2, 40, 0);
        for (int i = 0; i < TURNS; i++) {
            Check.due("get(0, " + i + ")", s.x.get(0, i), 2 * (i + 1) * (10 - i));
            Check.due("writer(0, " + i + ")", s.x.writer(0, i), i);
        }
    }

    private static void readOnlyRows() {
        Check.sentence("and those READ ONLY, are read");
        Scene s = new Scene().row(0, 1, 9).row(1, 1, 1, 7).turns(9);
        s.tell("add", 1, Scene.at(0, 0, 1, 0), Scene.at(1, 0, 0, 0), Scene.at(1, 0, 0, 0));
        s.x.mixed(3, 2, 5, 0);
        for (int i = 0; i < 9; i++) {
            Check.due("get(0, " + i + ")", s.x.get(0, i), 14);
        }
        Check.due("get(1, 0)", s.x.get(1, 0), 7);
        Check.due("writer(1, 0)", s.x.writer(1, 0), NONE);
    }

    private static void serialRows() {
        Check.sentence("SHARED and SERIAL ROWS");
        // each turn adds 1 to what is there and keeps what came of it: turns see what others did, in the order of their steps
        Scene s = new Scene().row(0, 1, 1).row(1, 1, TURNS).turns(TURNS);
        s.tell("add", 1, Scene.at(0, 0, 0, 0), Scene.at(0, 0, 0, 0), Scene.constant(1));
        s.tell("copy", 1, Scene.at(1, 0, 1, 0), Scene.at(0, 0, 0, 0), Scene.constant(0));
        Check.due("verdict(0)", s.x.verdict(0), 4);
        s.x.mixed(1, 2, 0, 1);
        for (int i = 0; i < TURNS; i++) {
            Check.due("get(1, " + i + ")", s.x.get(1, i), 10 - i);
        }
        Check.due("the last that wrote it", s.x.writer(0, 0), 0);
        // two turns by two workers: both add ahead of what either keeps, by seeds 2, 33, 52, 43
        s.turns(2);
        s.x.put(0, 1, 0, 0);
        s.x.mixed(2, 0, 2, 1);
        Check.due("kept by turn 0", s.x.get(1, 0), 2);
        Check.due("kept by turn 1", s.x.get(1, 1), 2);
    }

    private static void copiedReadsItsOwn() {
        Check.sentence("Of a COPIED ROW a TURN reads what it wrote there last itself");
        for (int deal = 0; deal <= 2; deal++) {
            for (int seed : SEEDS) {
                // each turn writes i, then doubles it, then keeps it
                Scene s = new Scene().row(0, 1, 24, 50, 51).row(1, 1, TURNS).row(2, 1, TURNS, 0, 1, 2, 3, 4, 5, 6, 7, 8, 9).turns(TURNS);
                s.tell("copy", 1, Scene.at(0, 23, 0, 0), Scene.at(2, 0, 1, 0), Scene.constant(0));
                s.tell("add", 1, Scene.at(0, 23, 0, 0), Scene.at(0, 23, 0, 0), Scene.at(0, 23, 0, 0));
                s.tell("copy", 1, Scene.at(1, 0, 1, 0), Scene.at(0, 23, 0, 0), Scene.constant(0));
                Check.due("verdict(0)", s.x.verdict(0), 3);
                s.x.mixed(4, deal, seed, 0);
                for (int i = 0; i < TURNS; i++) {
                    Check.due("deal " + deal + ", seed " + seed + ": get(1, " + i + ")", s.x.get(1, i), 2 * i);
                }
                Check.due("get(0, 23)", s.x.get(0, 23), 18);
                Check.due("get(0, 1)", s.x.get(0, 1), 51);
            }
        }
    }

    private static void copiedReadsWhatWasThere() {
        Check.sentence("else what was there ahead of the RUN");
        for (int deal = 0; deal <= 2; deal++) {
            for (int seed : SEEDS) {
                // turn 3 alone writes the cell, ahead of reading it; by deal 2 it may come ahead of the others
                Scene s = new Scene().row(0, 1, 1, 50).row(1, 1, 4).turns(4);
                s.tell("copy", 1, Scene.at(0, 0, 0, 0), Scene.constant(7), Scene.constant(0));
                s.tell("copy", 1, Scene.at(1, 0, 1, 0), Scene.at(0, 0, 0, 0), Scene.constant(0));
                s.x.guard(0, 4, 3);
                Check.due("verdict(0)", s.x.verdict(0), 3);
                s.x.mixed(2, deal, seed, 0);
                for (int i = 0; i < 4; i++) {
                    Check.due("deal " + deal + ", seed " + seed + ": get(1, " + i + ")", s.x.get(1, i), i == 3 ? 7 : 50);
                }
                Check.due("in the end", s.x.get(0, 0), 7);
                Check.due("once more", s.x.mixed(2, deal, seed, 0), 5);
                Check.due("of the RUN, not of the first one", s.x.get(1, 0), 7);
            }
        }
    }

    private static void copiedWithAPickThatDoesNot() {
        Check.sentence("a TURN reads what it wrote there last itself, else what was there ahead of the RUN");
        for (int left = 0; left <= 1; left++) {
            // turn 0 writes the cell if left is greater than 0, and keeps what is there; turn 1 writes it surely
            Scene s = new Scene().row(0, 1, 1, 50).row(1, 1, 2).turns(2);
            s.tell("pick", 1, Scene.at(0, 0, 0, 0), Scene.constant(left), Scene.constant(0));
            s.tell("copy", 1, Scene.at(0, 0, 0, 0), Scene.constant(9), Scene.constant(0));
            s.tell("copy", 1, Scene.at(1, 0, 1, 0), Scene.at(0, 0, 0, 0), Scene.constant(0));
            s.x.guard(0, 2, 0);
            s.x.guard(1, 2, 1);
            Check.due("verdict(0)", s.x.verdict(0), 3);
            s.x.mixed(1, 2, 0, 0);
            Check.due("kept by turn 0", s.x.get(1, 0), left == 1 ? 1 : 50);
            Check.due("kept by turn 1", s.x.get(1, 1), 9);
            Check.due("in the end", s.x.get(0, 0), 9);
        }
    }

    private static void copiedByTheGreatest() {
        Check.sentence("in the end a CELL has what the greatest of TURNS that wrote it wrote there last");
        int[] given = {10, 9, 2, 8, 1, 7, 3, 0, 4, 0};
        for (int least = -1; least <= 10; least++) {
            int greatest = NONE;
            for (int i = 0; i < TURNS; i++) {
                greatest = given[i] > least ? i : greatest;
            }
            for (int deal = 0; deal <= 2; deal++) {
                Scene s = new Scene().row(0, 1, 2, 50, 60).row(2, 1, TURNS, given).turns(TURNS);
                s.tell("pick", 1, Scene.at(0, 1, 0, 0), Scene.at(2, 0, 1, 0), Scene.constant(least));
                Check.due("verdict(0)", s.x.verdict(0), 3);
                s.x.mixed(3, deal, 17, 0);
                Check.due("of those above " + least, s.x.get(0, 1), greatest == NONE ? 60 : given[greatest]);
                Check.due("its writer", s.x.writer(0, 1), greatest);
                Check.due("a cell that none wrote", s.x.get(0, 0), 50);
                Check.due("its writer", s.x.writer(0, 0), NONE);
            }
        }
    }

    private static void copiedLast() {
        Check.sentence("wrote there last");
        for (int deal = 0; deal <= 2; deal++) {
            Scene s = new Scene().row(0, 1, 24).row(2, 1, TURNS, 10, 11, 12, 13, 14, 15, 16, 17, 18, 19).turns(TURNS);
            s.tell("copy", 2, Scene.at(0, 0, 0, 0), Scene.at(2, 9, 0, -1), Scene.constant(0));
            s.tell("copy", 2, Scene.at(0, 23, 0, -1), Scene.at(2, 0, 1, 0), Scene.constant(0));
            s.tell("copy", 2, Scene.at(0, 22, 0, 0), Scene.constant(3), Scene.constant(0));
            s.x.guard(2, 2, 0);
            s.x.mixed(4, deal, 50, 0);
            Check.due("the second item's", s.x.get(0, 0), 18);
            Check.due("of turn 9", s.x.get(0, 23), 19);
            Check.due("of turn 9, though turn 8 wrote it twice", s.x.get(0, 22), 19);
        }
    }

    private static void copiedInEachRow() {
        Check.sentence("Of a COPIED ROW a TURN reads what it wrote there last itself, else what was there ahead of the RUN");
        for (int r = 0; r < 6; r++) {
            int kept = (r + 1) % 6;
            for (int cell : new int[] {0, 23}) {
                // turn 9 alone writes the cell, ahead of reading it, and by deal 2 ahead of all others
                Scene s = new Scene().row(r, 1, 24).row(kept, 1, 24).turns(TURNS);
                s.x.put(r, 1, cell, 50);
                s.tell("copy", 1, Scene.at(r, cell, 0, 0), Scene.constant(7), Scene.constant(0));
                s.tell("copy", 1, Scene.at(kept, 0, 1, 0), Scene.at(r, cell, 0, 0), Scene.constant(0));
                s.row((r + 2) % 6, 4, TURNS, 0, 0, 0, 0, 0, 0, 0, 0, 0, 1);
                s.x.mask(0, (r + 2) % 6);
                Check.due("verdict(" + r + ")", s.x.verdict(r), 3);
                s.x.mixed(1, 2, 0, 0);
                for (int i = 0; i < TURNS; i++) {
                    Check.due("get(" + kept + ", " + i + ")", s.x.get(kept, i), i == 9 ? 7 : 50);
                }
                Check.due("get(" + r + ", " + cell + ")", s.x.get(r, cell), 7);
                Check.due("writer(" + r + ", " + cell + ")", s.x.writer(r, cell), 9);
                Check.due("writer(" + r + ", 11)", s.x.writer(r, 11), NONE);
            }
        }
    }

    private static void gatheredInEachRow() {
        Check.sentence("What TURNS do to GATHERED ROWS is done to each CELL one behind another");
        for (int r = 0; r < 6; r++) {
            Scene s = new Scene().row(r, 1, 24).turns(TURNS);
            s.tell("sub", 2, Scene.at(r, 23, 0, -1), Scene.at(r, 23, 0, -1), Scene.constant(3));
            Check.due("verdict(" + r + ")", s.x.verdict(r), 2);
            s.x.mixed(1, 2, 0, 0);
            Check.due("get(" + r + ", 23)", s.x.get(r, 23), -30);
            Check.due("get(" + r + ", 22)", s.x.get(r, 22), -30);
            Check.due("the greatest", s.x.writer(r, 23), 9);
        }
    }

    private static void copiedThoughEnded() {
        Check.sentence("in the end a CELL has what the greatest of TURNS that wrote it wrote there");
        // turns 6 to 9 have no right: turn 9 ends ahead of all, 6 behind what it wrote
        Scene s = new Scene().row(0, 1, 2, 50).row(2, 1, 24, 10, 11, 12, 13, 14, 15, 16, 17, 18, 19).turns(TURNS);
        s.tell("copy", 1, Scene.at(5, 0, 0, 0), Scene.constant(0), Scene.constant(0));
        s.tell("copy", 1, Scene.at(0, 0, 0, 0), Scene.at(2, 0, 1, 0), Scene.constant(0));
        s.tell("copy", 1, Scene.at(0, 1, 0, 0), Scene.at(2, 18, 1, 0), Scene.constant(0));
        s.row(3, 4, TURNS, 0, 0, 0, 0, 0, 0, 0, 1, 1, 1);
        s.x.mask(0, 3);
        Check.due("verdict(0)", s.x.verdict(0), 3);
        Check.due("mixed()", s.x.mixed(2, 2, 3, 0), 13);
        Check.due("of turn 6", s.x.get(0, 0), 16);
        Check.due("its writer", s.x.writer(0, 0), 6);
        Check.due("the other one's", s.x.writer(0, 1), 5);
        Check.due("GONE", s.x.faults(0), 3);
        Check.due("OUTSIDE", s.x.faults(1), 1);
    }

    private static void gatheredInAnyOrder() {
        Check.sentence("What TURNS do to GATHERED ROWS is done to each CELL one behind another, in any order (it is the same)");
        String[] names = {"add", "sub", "mul", "and", "or", "xor", "max", "min"};
        for (int n = 0; n < names.length; n++) {
            for (int form = 0; form < (n < 6 ? 2 : 4); form++) {
                Scene s = new Scene().row(0, form, 3, 30, -31, 32).row(1, form, 12, 9, -7, 25, 3, -30, 11, 31, 4, 5, -6, 77, 15).turns(TURNS);
                s.tell(names[n], 3, Scene.at(0, 0, 0, 1), Scene.at(0, 0, 0, 1), Scene.at(1, 0, 1, 1));
                Check.due("verdict(0) of " + names[n], s.x.verdict(0), 2);
                s.x.run();
                long[] due = {s.x.get(0, 0), s.x.get(0, 1), s.x.get(0, 2)};
                for (int deal = 0; deal <= 2; deal++) {
                    s.row(0, form, 3, 30, -31, 32);
                    Check.due("same()", s.x.same(3, deal, 21 + deal, 0), 1);
                    s.x.mixed(4, deal, 33 + deal, 0);
                    for (int i = 0; i < 3; i++) {
                        Check.due(names[n] + " of form " + form + ", deal " + deal, s.x.get(0, i), due[i]);
                        Check.due("the greatest", s.x.writer(0, i), 9);
                    }
                }
            }
        }
    }

    private static void gatheredWraps() {
        Check.sentence("in any order (it is the same)");
        // sums and products of shorts and ints that wrap on their way, ints on the right of shorts, too
        int[] given = {Integer.MAX_VALUE, 3, Integer.MIN_VALUE, -1, 65535, 32767, 7, 99999, -65537, 12345};
        for (String name : new String[] {"add", "sub", "mul"}) {
            for (int form = 0; form < 2; form++) {
                Scene s = new Scene().row(0, form, 1, 32767).row(1, 1, TURNS, given).turns(TURNS);
                s.tell(name, 1, Scene.at(0, 0, 0, 0), Scene.at(0, 0, 0, 0), Scene.at(1, 0, 1, 0));
                int due = 32767;
                for (int v : given) {
                    due = name.equals("add") ? due + v : name.equals("sub") ? due - v : due * v;
                }
                Check.due("verdict(0)", s.x.verdict(0), 2);
                Check.due("same()", s.x.same(4, 2, 9, 0), 1);
                s.x.mixed(3, 2, 40, 0);
                Check.due(name + " of form " + form, s.x.get(0, 0), form == 0 ? (short) due : due);
            }
        }
    }

    private static void mixedRefused() {
        Check.sentence("A MIXED RUN, with SEED (0 to 63): how many ITEMS were done. BAD; NOT");
        Scene s = turnsOf(2, 1, 5);
        Check.due("mixed()", s.x.mixed(4, 2, 63, 1), 8);
        long before = s.x.digest();
        int[][] bad = {{0, 0, 0, 0}, {5, 0, 0, 0}, {1, -1, 0, 0}, {1, 3, 0, 0}, {1, 0, -1, 0}, {1, 0, 64, 0}, {1, 0, 0, -1}, {1, 0, 0, 2}};
        for (int[] b : bad) {
            Check.due("mixed(" + b[0] + ", " + b[1] + ", " + b[2] + ", " + b[3] + ")", s.x.mixed(b[0], b[1], b[2], b[3]), BAD);
        }
        Check.due("digest()", s.x.digest(), before);
    }

    /** A loop that is not parallel. */
    private static Scene serialScene() {
        Scene s = new Scene().row(0, 1, 4, 1).turns(3);
        s.tell("add", 1, Scene.at(0, 1, 1, 0), Scene.at(0, 0, 1, 0), Scene.constant(1));
        return s;
    }

    private static void notParallel() {
        Check.sentence("NOT: THE LOOP is not PARALLEL, and force is 0 (else 1).");
        Scene s = serialScene();
        s.x.run();
        long before = s.x.digest();
        Check.due("mixed(1, 0, 0, 0)", s.x.mixed(1, 0, 0, 0), NOT);
        Check.due("mixed(4, 2, 63, 0)", s.x.mixed(4, 2, 63, 0), NOT);
        Check.due("a bad one", s.x.mixed(5, 2, 63, 0), BAD);
        Check.due("nothing is changed", s.x.digest(), before);
        Check.due("NOT is no finding", s.x.count(8), 0);
        s.turns(1);
        Check.due("parallel", s.x.mixed(1, 0, 0, 0), 1);
    }

    private static void forced() {
        Check.sentence("and force is 0 (else 1)");
        Scene s = serialScene();
        Check.due("mixed(1, 2, 0, 1)", s.x.mixed(1, 2, 0, 1), 3);
        int[] due = {1, 2, 1, 1};
        for (int i = 0; i < 4; i++) {
            Check.due("get(0, " + i + ")", s.x.get(0, i), due[i]);
        }
        for (int force : Scene.beyond(0, 1)) {
            Check.due("force " + force, s.x.mixed(1, 2, 0, force), BAD);
        }
        // forced or not, a loop that is parallel has its rows copied
        for (int force = 0; force <= 1; force++) {
            s = new Scene().row(0, 1, 1, 50).row(1, 1, 4).turns(4);
            s.tell("copy", 1, Scene.at(0, 0, 0, 0), Scene.constant(7), Scene.constant(0));
            s.tell("copy", 1, Scene.at(1, 0, 1, 0), Scene.at(0, 0, 0, 0), Scene.constant(0));
            s.x.guard(0, 4, 3);
            s.x.mixed(1, 2, 0, force);
            Check.due("force " + force, s.x.get(1, 0), 50);
        }
    }
}
