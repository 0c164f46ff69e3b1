import java.util.ArrayList;
import java.util.Arrays;
import java.util.List;

/** The edges that the document names of sets and pieces, a method a sentence: promises 22 to 24 and 28. */
public final class EdgesSetsTest {
    private static final int READ = 0, WRITTEN = 1, SURE = 2, EXPOSED = 3, SETS = 4;
    private static final int NONE = StrideTurns.NONE, BAD = StrideTurns.BAD, CELLS = 24;

    public static void main(String[] args) {
        readAheadOfAFault();
        itemsAheadOfAFault();
        faultOfAnItem();
        overIsNotKnownAhead();
        knownAnew();
        faultOfOneTurn();
        read();
        written();
        inATurn();
        sureByWhat();
        notByAPick();
        sureBehindWhat();
        surelyWrittenAgain();
        exposedAheadOfAll();
        exposedBehindItems();
        exposedBehindAPick();
        exposedAtLeastOnce();
        exposedInEachTurn();
        allTogether();
        ofMissingRows();
        ofTruths();
        pieceOfOne();
        piecesOfMany();
        piecesOfAny();
        noPieces();
        setsRefused();
        pieceRefused();
        lastTurns();
        lastOfSure();
        lastRefused();
        Check.end();
    }

    /** The cells that a set's pieces have, a bit a cell. */
    private static void cells(Scene s, int set, int r, int i, int... due) {
        String of = "set " + set + " of row " + r + " in turn " + i;
        long told = 0;
        for (int p = 0; p < s.x.pieces(set, r, i); p++) {
            for (int n = 0; n < s.x.piece(set, r, i, p, 2); n++) {
                told += 1L << s.x.piece(set, r, i, p, 0) + n * s.x.piece(set, r, i, p, 1);
            }
        }
        long all = 0;
        for (int c : due) {
            all += 1L << c;
        }
        Check.due(of, told, all);
        Check.due("how many cells of " + of, s.x.many(set, r, i), due.length);
    }

    private static int[] reference(int row, int fate) {
        int[][] all = {Scene.at(row, 0, 0, 0), Scene.at(5, 0, 0, 0), Scene.at(4, 0, 0, 0), Scene.at(row, 1, 0, 0), Scene.at(row, -1, 0, 0)};
        return all[fate];
    }

    private static void readAheadOfAFault() {
        Check.sentence("of that one what is read ahead of the FAULT");
        for (int fates = 0; fates < 125; fates++) {
            int target = fates % 5;
            int left = fates / 5 % 5;
            int right = fates / 25;
            for (String name : new String[] {"add", "copy"}) {
                boolean rightIsFine = right == 0 || name.equals("copy");
                Scene s = new Scene().row(0, 1, 1).row(1, 1, 1).row(2, 1, 1).row(4, 4, 3).turns(1);
                s.tell(name, 1, reference(0, target), reference(1, left), reference(2, right));
                String what = name + " of fates " + target + " " + left + " " + right;
                Check.due("left of " + what, s.x.many(READ, 1, 0), left == 0 ? 1 : 0);
                boolean isRead = left == 0 && right == 0 && name.equals("add");
                Check.due("right of " + what, s.x.many(READ, 2, 0), isRead ? 1 : 0);
                boolean isWritten = left == 0 && rightIsFine && target == 0;
                Check.due("target of " + what, s.x.many(WRITTEN, 0, 0), isWritten ? 1 : 0);
                Check.due("surely of " + what, s.x.many(SURE, 0, 0), isWritten ? 1 : 0);
                Check.due("exposed of " + what, s.x.many(EXPOSED, 1, 0), left == 0 ? 1 : 0);
            }
        }
    }

    private static void itemsAheadOfAFault() {
        Check.sentence("ITEMS one behind another, up to the first with a FAULT that is GONE or OUTSIDE");
        int[][] faults = {Scene.at(5, 0, 0, 0), Scene.at(4, 0, 0, 0), Scene.at(1, 24, 0, 0), Scene.at(1, -1, 0, 0)};
        for (int which = 0; which < 3; which++) {
            for (int[] fault : faults) {
                Scene s = new Scene().row(0, 1, 24).row(1, 1, 24).row(4, 4, 24).turns(1);
                s.tell("copy", 5, Scene.at(0, 0, 0, 1), Scene.constant(0), Scene.constant(0));
                s.tell("add", 1, Scene.at(0, 5, 0, 0), Scene.at(1, 5, 0, 0), Scene.at(1, 6, 0, 0));
                s.tell("copy", 5, Scene.at(0, 6, 0, 1), Scene.constant(0), Scene.constant(0));
                cells(s, WRITTEN, 0, 0, 0, 1, 2, 3, 4, 5, 6, 7, 8, 9, 10);
                s.refer(1, which, fault);
                cells(s, WRITTEN, 0, 0, 0, 1, 2, 3, 4);
                cells(s, SURE, 0, 0, 0, 1, 2, 3, 4);
            }
        }
    }

    private static void faultOfAnItem() {
        Check.sentence("up to the first with a FAULT");
        for (int first = 0; first <= 5; first++) {
            Scene s = new Scene().row(0, 1, 24).row(1, 1, first).turns(1);
            // item "first" is the one without a left; it is written by none
            s.tell("copy", 5, Scene.at(0, 10, 0, 2), Scene.at(1, 0, 0, 1), Scene.constant(0));
            Check.due("items ahead of " + first, s.x.many(WRITTEN, 0, 0), first);
            Check.due("read by them", s.x.many(READ, 1, 0), first);
            s.row(1, 1, 24);
            s.row(0, 1, 10 + 2 * first);
            Check.due("targets ahead of " + first, s.x.many(WRITTEN, 0, 0), first);
            Check.due("read ahead of the fault, too", s.x.many(READ, 1, 0), Math.min(5, first + 1));
        }
    }

    private static void overIsNotKnownAhead() {
        Check.sentence("SETS of CELLS of a ROW in a TURN, as is known ahead");
        Scene s = new Scene().row(0, 1, 9, Integer.MAX_VALUE).row(1, 1, 9).turns(1);
        s.tell("sure", 2, Scene.at(1, 0, 0, 1), Scene.at(0, 0, 0, 0), Scene.constant(1));
        s.tell("pick", 1, Scene.at(1, 5, 0, 0), Scene.at(0, 3, 0, 0), Scene.constant(60));
        cells(s, WRITTEN, 1, 0, 0, 1, 5);
        cells(s, READ, 0, 0, 0, 3);
        s.x.run();
        Check.due("it is over", s.x.faults(2), 1);
        cells(s, WRITTEN, 1, 0, 0, 1, 5);
        cells(s, READ, 0, 0, 0, 3);
    }

    private static void knownAnew() {
        Check.sentence("as is known ahead");
        Scene s = new Scene().row(0, 1, 9).row(5, 4, 3, 1, 1, 1).turns(3);
        s.tell("copy", 1, Scene.at(0, 0, 2, 0), Scene.constant(0), Scene.constant(0));
        cells(s, WRITTEN, 0, NONE, 0, 2, 4);
        s.x.mask(0, 5);
        cells(s, WRITTEN, 0, NONE, 0, 2, 4);
        s.x.put(5, 4, 1, 0);
        cells(s, WRITTEN, 0, NONE, 0, 4);
        s.x.copy(5, 1, 5, 2, 1);
        cells(s, WRITTEN, 0, NONE, 0);
        s.x.undo();
        cells(s, WRITTEN, 0, NONE, 0, 2, 4);
        s.x.guard(0, 2, 1);
        cells(s, WRITTEN, 0, NONE, 2);
        s.x.place(0, 0, 1, 2, 0);
        cells(s, WRITTEN, 0, NONE, 3);
        s.x.turns(4);
        cells(s, WRITTEN, 0, NONE, 3, 7);
        s.state("copy", 1);
        cells(s, WRITTEN, 0, NONE, 0, 3, 7);
        s.x.refer(0, 0, 1);
        cells(s, WRITTEN, 0, NONE, 0);
        s.row(1, 1, 9);
        cells(s, WRITTEN, 0, NONE, 0);
        cells(s, WRITTEN, 1, NONE, 3, 7);
        s.x.lose(1);
        cells(s, WRITTEN, 0, NONE, 0);
        cells(s, WRITTEN, 1, NONE);
    }

    private static void faultOfOneTurn() {
        Check.sentence("SETS of CELLS of a ROW in a TURN");
        Scene s = new Scene().row(0, 1, 4).turns(3);
        // turn 1 ends at its first item, the others do not
        s.tell("copy", 1, Scene.at(5, 0, 0, 0), Scene.constant(0), Scene.constant(0));
        s.tell("copy", 2, Scene.at(0, 0, 1, 1), Scene.constant(0), Scene.constant(0));
        s.x.guard(0, 3, 1);
        cells(s, WRITTEN, 0, 0, 0, 1);
        cells(s, WRITTEN, 0, 1);
        cells(s, WRITTEN, 0, 2, 2, 3);
        s.turns(4);
        cells(s, WRITTEN, 0, 3, 3);
    }

    private static void read() {
        Check.sentence("0 READ; 1 WRITTEN: TARGETS");
        Scene s = new Scene().row(0, 1, 24).turns(1);
        s.tell("pick", 1, Scene.at(0, 0, 0, 0), Scene.at(0, 11, 0, 0), Scene.at(0, 23, 0, 0));
        cells(s, READ, 0, 0, 11, 23);
        cells(s, WRITTEN, 0, 0, 0);
        s.x.refer(0, Scene.LEFT, NONE);
        cells(s, READ, 0, 0, 23);
        s.x.refer(0, Scene.RIGHT, NONE);
        cells(s, READ, 0, 0);
        cells(s, WRITTEN, 0, 0, 0);
    }

    private static void written() {
        Check.sentence("1 WRITTEN: TARGETS");
        for (String name : new String[] {"add", "copy", "pick", "sure", "times"}) {
            Scene s = new Scene().row(0, 1, 24).turns(1);
            s.tell(name, 5, Scene.at(0, 23, 0, -5), Scene.constant(-60), Scene.constant(60));
            cells(s, WRITTEN, 0, 0, 23, 18, 13, 8, 3);
            s.x.place(0, Scene.TARGET, 20, 0, -5);
            cells(s, WRITTEN, 0, 0, 20, 15, 10, 5, 0);
            s.x.place(0, Scene.TARGET, 23, 0, 0);
            cells(s, WRITTEN, 0, 0, 23);
            s.x.place(0, Scene.TARGET, 24, 0, 0);
            cells(s, WRITTEN, 0, 0);
        }
    }

    private static void inATurn() {
        Check.sentence("(of a TURN, or, i = NONE, of all together");
        Scene s = new Scene().row(0, 1, 24).row(5, 4, 10, 1, 0, 0, 1, 0, 0, 0, 0, 0, 1).turns(10);
        s.tell("copy", 2, Scene.at(0, 0, 2, 1), Scene.at(0, 20, 0, 1), Scene.constant(0));
        s.x.mask(0, 5);
        for (int i = 0; i < 10; i++) {
            if (i == 0 || i == 3 || i == 9) {
                cells(s, WRITTEN, 0, i, 2 * i, 2 * i + 1);
                cells(s, READ, 0, i, 20, 21);
            } else {
                cells(s, WRITTEN, 0, i);
                cells(s, READ, 0, i);
            }
        }
        cells(s, WRITTEN, 0, NONE, 0, 1, 6, 7, 18, 19);
        cells(s, READ, 0, NONE, 20, 21);
    }

    private static void sureByWhat() {
        Check.sentence("2 SURE: WRITTEN by another OPERATION than pick, neither by sure or times");
        String[] names = {"add", "sub", "mul", "rem", "max", "min", "and", "or", "xor", "copy", "pick", "sure", "times"};
        for (int operation = 0; operation < names.length; operation++) {
            Scene s = new Scene().row(0, 1, 24).turns(1);
            s.tell(names[operation], 3, Scene.at(0, 2, 0, 1), Scene.constant(1), Scene.constant(0));
            Check.due("written by " + names[operation], s.x.many(WRITTEN, 0, 0), 3);
            Check.due("surely by " + names[operation], s.x.many(SURE, 0, 0), operation < 10 ? 3 : 0);
        }
    }

    private static void notByAPick() {
        Check.sentence("WRITTEN by another OPERATION than pick");
        Scene s = new Scene().row(0, 1, 24).turns(1);
        s.tell("pick", 1, Scene.at(0, 0, 0, 0), Scene.constant(1), Scene.constant(0));
        s.tell("copy", 2, Scene.at(0, 0, 0, 1), Scene.constant(1), Scene.constant(0));
        s.tell("pick", 3, Scene.at(0, 0, 0, 1), Scene.constant(1), Scene.constant(0));
        s.tell("copy", 1, Scene.at(0, 4, 0, 0), Scene.constant(1), Scene.constant(0));
        cells(s, WRITTEN, 0, 0, 0, 1, 2, 4);
        cells(s, SURE, 0, 0, 0, 1, 4);
    }

    private static void sureBehindWhat() {
        Check.sentence("nor behind an ITEM of these in the TURN");
        for (String name : new String[] {"sure", "times", "pick", "mul"}) {
            boolean mayBeOver = name.equals("sure") || name.equals("times");
            Scene s = new Scene().row(0, 1, 24).row(1, 1, 24).row(5, 4, 3, 0, 1, 0).turns(3);
            s.tell("copy", 1, Scene.at(0, 0, 0, 0), Scene.constant(1), Scene.constant(0));
            s.tell(name, 1, Scene.at(1, 0, 0, 0), Scene.constant(1), Scene.constant(0));
            s.tell("copy", 1, Scene.at(0, 1, 0, 0), Scene.constant(1), Scene.constant(0));
            s.tell("copy", 1, Scene.at(1, 2, 0, 0), Scene.constant(1), Scene.constant(0));
            s.x.mask(1, 5);
            // turn 1 alone has an item of it, so it alone is in doubt behind it
            for (int i = 0; i < 3; i++) {
                boolean doubt = mayBeOver && i == 1;
                Check.due(name + ": row 0 in turn " + i, s.x.many(SURE, 0, i), doubt ? 1 : 2);
                if (doubt) {
                    cells(s, SURE, 1, i);
                } else if (i == 1 && name.equals("mul")) {
                    cells(s, SURE, 1, i, 0, 2);
                } else {
                    cells(s, SURE, 1, i, 2);
                }
            }
            cells(s, WRITTEN, 0, 1, 0, 1);
        }
    }

    private static void surelyWrittenAgain() {
        Check.sentence("neither by sure or times, nor behind an ITEM of these in the TURN");
        Scene s = new Scene().row(0, 1, 24).turns(1);
        s.tell("copy", 2, Scene.at(0, 0, 0, 1), Scene.constant(1), Scene.constant(0));
        s.tell("times", 3, Scene.at(0, 0, 0, 1), Scene.constant(1), Scene.constant(0));
        s.tell("copy", 4, Scene.at(0, 0, 0, 1), Scene.constant(1), Scene.constant(0));
        cells(s, WRITTEN, 0, 0, 0, 1, 2, 3);
        cells(s, SURE, 0, 0, 0, 1);
    }

    private static void exposedAheadOfAll() {
        Check.sentence("3 EXPOSED: READ at least once with no ITEM ahead in the TURN whose TARGET it is");
        Scene s = new Scene().row(0, 1, 24).turns(1);
        // an item's own target is not ahead of what it reads
        s.tell("add", 1, Scene.at(0, 0, 0, 0), Scene.at(0, 0, 0, 0), Scene.at(0, 1, 0, 0));
        cells(s, EXPOSED, 0, 0, 0, 1);
        s.tell("add", 1, Scene.at(0, 2, 0, 0), Scene.at(0, 0, 0, 0), Scene.at(0, 2, 0, 0));
        cells(s, EXPOSED, 0, 0, 0, 1, 2);
        s.tell("add", 1, Scene.at(0, 3, 0, 0), Scene.at(0, 2, 0, 0), Scene.at(0, 23, 0, 0));
        cells(s, EXPOSED, 0, 0, 0, 1, 2, 23);
        cells(s, READ, 0, 0, 0, 1, 2, 23);
    }

    private static void exposedBehindItems() {
        Check.sentence("no ITEM ahead in the TURN whose TARGET it is");
        for (int step = -1; step <= 1; step++) {
            Scene s = new Scene().row(0, 1, 24).turns(1);
            s.tell("add", 4, Scene.at(0, 10, 0, step), Scene.at(0, 10 - step, 0, step), Scene.constant(0));
            if (step == 0) {
                cells(s, EXPOSED, 0, 0, 10);
            } else {
                // each item reads what the one ahead of it wrote, but for the first
                cells(s, EXPOSED, 0, 0, 10 - step);
                cells(s, READ, 0, 0, 10 - step, 10, 10 + step, 10 + 2 * step);
            }
            s.x.place(0, Scene.LEFT, 10 + step, 0, step);
            Check.due("ahead of their writing", s.x.many(EXPOSED, 0, 0), step == 0 ? 1 : 4);
        }
        // all that was written ahead, not the latest alone
        Scene s = new Scene().row(0, 1, 24).row(1, 1, 24).turns(1);
        s.tell("copy", 5, Scene.at(0, 0, 0, 1), Scene.constant(0), Scene.constant(0));
        s.tell("copy", 5, Scene.at(1, 0, 0, 1), Scene.at(0, 0, 0, 2), Scene.constant(0));
        s.tell("add", 1, Scene.at(0, 9, 0, 0), Scene.at(1, 0, 0, 0), Scene.at(1, 4, 0, 0));
        cells(s, READ, 0, 0, 0, 2, 4, 6, 8);
        cells(s, EXPOSED, 0, 0, 6, 8);
        cells(s, READ, 1, 0, 0, 4);
        cells(s, EXPOSED, 1, 0);
    }

    private static void exposedBehindAPick() {
        Check.sentence("whose TARGET it is and whose OPERATION is not pick");
        for (String name : new String[] {"pick", "copy", "sure", "times", "max"}) {
            Scene s = new Scene().row(0, 1, 24).row(1, 1, 24).turns(1);
            s.tell(name, 1, Scene.at(0, 7, 0, 0), Scene.constant(1), Scene.constant(0));
            s.tell("copy", 1, Scene.at(1, 0, 0, 0), Scene.at(0, 7, 0, 0), Scene.constant(0));
            Check.due("behind " + name, s.x.many(EXPOSED, 0, 0), name.equals("pick") ? 1 : 0);
            Check.due("it is read", s.x.many(READ, 0, 0), 1);
            s.x.refer(0, Scene.TARGET, 1);
            Check.due("the same cell of another row", s.x.many(EXPOSED, 0, 0), 1);
        }
    }

    private static void exposedAtLeastOnce() {
        Check.sentence("READ at least once with no ITEM ahead");
        Scene s = new Scene().row(0, 1, 24).row(1, 1, 24).turns(1);
        s.tell("copy", 1, Scene.at(1, 0, 0, 0), Scene.at(0, 7, 0, 0), Scene.constant(0));
        s.tell("copy", 1, Scene.at(0, 7, 0, 0), Scene.constant(1), Scene.constant(0));
        s.tell("copy", 1, Scene.at(1, 0, 0, 0), Scene.at(0, 7, 0, 0), Scene.constant(0));
        cells(s, EXPOSED, 0, 0, 7);
        s.x.guard(0, 2, 1);
        cells(s, EXPOSED, 0, 0);
        cells(s, READ, 0, 0, 7);
    }

    private static void exposedInEachTurn() {
        Check.sentence("ahead in the TURN");
        Scene s = new Scene().row(0, 1, 24).row(1, 1, 24).turns(3);
        s.tell("copy", 1, Scene.at(0, 7, 0, 0), Scene.constant(1), Scene.constant(0));
        s.tell("copy", 1, Scene.at(1, 0, 0, 0), Scene.at(0, 7, 0, 0), Scene.constant(0));
        s.x.guard(0, 2, 0);
        cells(s, EXPOSED, 0, 0);
        cells(s, EXPOSED, 0, 1, 7);
        cells(s, EXPOSED, 0, 2);
    }

    private static void allTogether() {
        Check.sentence("i = NONE, of all together");
        Scene s = new Scene().row(0, 1, 24).row(1, 1, 24);
        s.tell("copy", 2, Scene.at(0, 0, 2, 1), Scene.at(1, 10, -1, 0), Scene.constant(0));
        for (int set = 0; set < SETS; set++) {
            Check.due("without turns", s.x.many(set, 0, NONE), 0);
            Check.due("without turns", s.x.pieces(set, 0, NONE), 0);
        }
        s.turns(10);
        Check.due("written", s.x.many(WRITTEN, 0, NONE), 20);
        Check.due("in one piece", s.x.piece(WRITTEN, 0, NONE, 0, 2), 20);
        Check.due("surely", s.x.many(SURE, 0, NONE), 20);
        cells(s, READ, 1, NONE, 1, 2, 3, 4, 5, 6, 7, 8, 9, 10);
        cells(s, EXPOSED, 1, NONE, 1, 2, 3, 4, 5, 6, 7, 8, 9, 10);
        s.turns(1);
        cells(s, WRITTEN, 0, NONE, 0, 1);
        cells(s, READ, 1, NONE, 10);
    }

    private static void ofMissingRows() {
        Check.sentence("nothing is in those of a ROW that is MISSING, or of truths");
        for (int form = -1; form <= 4; form += 5) {
            Scene s = new Scene().turns(2).row(1, 1, 9);
            s.tell("add", 1, Scene.at(1, 0, 0, 0), Scene.at(1, 0, 0, 0), Scene.constant(0));
            s.tell("add", 1, Scene.at(3, 0, 0, 0), Scene.at(3, 1, 0, 0), Scene.at(3, 2, 0, 0));
            if (form == 4) {
                s.row(3, form, 24, 1, 1, 1);
            }
            for (int set = 0; set < SETS; set++) {
                for (int i = NONE; i < 2; i++) {
                    Check.due("many(" + set + ", 3, " + i + ")", s.x.many(set, 3, i), 0);
                    Check.due("pieces(" + set + ", 3, " + i + ")", s.x.pieces(set, 3, i), 0);
                    Check.due("piece(" + set + ", 3, " + i + ", 0, 0)", s.x.piece(set, 3, i, 0, 0), BAD);
                }
            }
            Check.due("last(1, 3, 0)", s.x.last(WRITTEN, 3, 0), NONE);
            s.row(3, 0, 24);
            Check.due("of numbers", s.x.many(READ, 3, 0), 2);
            s.x.lose(3);
            Check.due("lost", s.x.many(READ, 3, 0), 0);
            Check.due("another row", s.x.many(WRITTEN, 1, 0), 1);
        }
    }

    private static void ofTruths() {
        Check.sentence("or of truths");
        // a mask is looked at, but it is not read
        Scene s = new Scene().row(0, 1, 9).row(4, 4, 9, 1, 1).turns(2);
        s.tell("copy", 1, Scene.at(0, 0, 0, 0), Scene.constant(0), Scene.constant(0));
        s.x.mask(0, 4);
        Check.due("it is a mask", s.x.info(0, 6), 2);
        for (int set = 0; set < SETS; set++) {
            Check.due("many(" + set + ", 4, NONE)", s.x.many(set, 4, NONE), 0);
        }
    }

    /** A loop that writes just the given cells of row 0, together. */
    private static Scene writing(boolean[] cells) {
        Scene s = new Scene().row(0, 1, CELLS).turns(10);
        for (int part = 0; part < 3; part++) {
            int[] truths = new int[10];
            for (int i = 0; i < 10; i++) {
                truths[i] = 10 * part + i < CELLS && cells[10 * part + i] ? 1 : 0;
            }
            s.row(3 + part, 4, 10, truths);
            s.tell("copy", 1, Scene.at(0, 10 * part, 1, 0), Scene.constant(0), Scene.constant(0));
            s.x.mask(part, 3 + part);
        }
        return s;
    }

    private static Scene writing(int... cells) {
        boolean[] all = new boolean[CELLS];
        for (int c : cells) {
            all[c] = true;
        }
        return writing(all);
    }

    private static void pieces(Scene s, int[]... due) {
        Check.due("pieces", s.x.pieces(WRITTEN, 0, NONE), due.length);
        for (int p = 0; p < due.length; p++) {
            for (int part = 0; part < 3; part++) {
                Check.due("piece " + p + ", part " + part, s.x.piece(WRITTEN, 0, NONE, p, part), due[p][part]);
            }
        }
        for (int part = 0; part < 3; part++) {
            Check.due("a piece more", s.x.piece(WRITTEN, 0, NONE, due.length, part), BAD);
        }
    }

    private static int[] of(int first, int stride, int many) {
        return new int[] {first, stride, many};
    }

    private static void pieceOfOne() {
        Check.sentence("STRIDE the distance to the next one of it (1, if there is none)");
        for (int c : new int[] {0, 1, 12, 22, 23}) {
            pieces(writing(c), of(c, 1, 1));
        }
        pieces(writing(0, 23), of(0, 23, 2));
        pieces(writing(0, 1), of(0, 1, 2));
        pieces(writing(22, 23), of(22, 1, 2));
        pieces(writing(0, 1, 23), of(0, 1, 2), of(23, 1, 1));
        pieces(writing(0, 22, 23), of(0, 22, 2), of(23, 1, 1));
        pieces(writing(0, 12, 23), of(0, 12, 2), of(23, 1, 1));
    }

    private static void piecesOfMany() {
        Check.sentence("MANY: as many as there are one behind another by STRIDE; the next PIECE: as before, of those that are left.");
        pieces(writing(0, 2, 3), of(0, 2, 2), of(3, 1, 1));
        pieces(writing(0, 2, 3, 4), of(0, 2, 3), of(3, 1, 1));
        pieces(writing(0, 1, 2, 4, 6), of(0, 1, 3), of(4, 2, 2));
        pieces(writing(0, 11, 22, 23), of(0, 11, 3), of(23, 1, 1));
        pieces(writing(1, 2, 4, 8, 16), of(1, 1, 2), of(4, 4, 2), of(16, 1, 1));
        pieces(writing(3, 8, 9, 13, 18, 20), of(3, 5, 4), of(9, 11, 2));
        pieces(writing(0, 3, 4, 6, 7, 9, 10, 12), of(0, 3, 5), of(4, 3, 3));
        pieces(writing(0, 2, 4, 6, 8, 10, 12, 14, 16, 18, 20, 22), of(0, 2, 12));
        pieces(writing(1, 3, 5, 7, 9, 11, 13, 15, 17, 19, 21, 23), of(1, 2, 12));
        pieces(writing(0, 1, 3, 4, 6, 7, 9, 10, 12, 13, 15, 16, 18, 19, 21, 22), of(0, 1, 2), of(3, 1, 2), of(6, 1, 2), of(9, 1, 2),
                of(12, 1, 2), of(15, 1, 2), of(18, 1, 2), of(21, 1, 2));
        boolean[] all = new boolean[CELLS];
        Arrays.fill(all, true);
        pieces(writing(all), of(0, 1, 24));
        all[0] = false;
        pieces(writing(all), of(1, 1, 23));
        all[23] = false;
        pieces(writing(all), of(1, 1, 22));
        all[12] = false;
        pieces(writing(all), of(1, 1, 11), of(13, 1, 10));
    }

    private static void piecesOfAny() {
        Check.sentence("PIECES of a SET: FIRST is the least CELL of it");
        long drawn = 12345;
        for (int time = 0; time < 120; time++) {
            boolean[] cells = new boolean[CELLS];
            for (int c = 0; c < CELLS; c++) {
                drawn = (drawn * 25214903917L + 11) & 0xFFFFFFFFFFFFL;
                cells[c] = (drawn >> 30) % (2 + time % 3) == 0;
            }
            pieces(writing(cells), cut(cells));
        }
    }

    private static int[][] cut(boolean[] cells) {
        List<Integer> left = new ArrayList<>();
        for (int c = 0; c < CELLS; c++) {
            if (cells[c]) {
                left.add(c);
            }
        }
        List<int[]> all = new ArrayList<>();
        while (!left.isEmpty()) {
            int first = left.get(0);
            int stride = left.size() == 1 ? 1 : left.get(1) - first;
            int many = 0;
            while (left.remove((Integer) (first + many * stride))) {
                many++;
            }
            all.add(of(first, stride, many));
        }
        return all.toArray(new int[0][]);
    }

    private static void noPieces() {
        Check.sentence("How many PIECES.");
        pieces(writing());
        Scene s = new Scene().row(0, 1, 0).turns(10);
        s.tell("copy", 1, Scene.at(0, 0, 0, 0), Scene.constant(0), Scene.constant(0));
        pieces(s);
        pieces(new Scene());
    }

    private static void setsRefused() {
        Check.sentence("How many CELLS a SET has. BAD.");
        Scene s = new Scene();
        Check.due("turn 0, without turns", s.x.many(0, 0, 0), BAD);
        Check.due("pieces() without turns", s.x.pieces(0, 0, 0), BAD);
        s.turns(10);
        Check.due("the last turn", s.x.many(3, 5, 9), 0);
        Check.due("its pieces", s.x.pieces(3, 5, 9), 0);
        for (int set : Scene.beyond(0, 3)) {
            Check.due("many(" + set + ", 0, 0)", s.x.many(set, 0, 0), BAD);
            Check.due("pieces(" + set + ", 0, 0)", s.x.pieces(set, 0, 0), BAD);
        }
        for (int r : Scene.beyond(0, 5)) {
            Check.due("many(0, " + r + ", 0)", s.x.many(0, r, 0), BAD);
            Check.due("pieces(0, " + r + ", 0)", s.x.pieces(0, r, 0), BAD);
        }
        for (int i : Scene.beyond(-1, 9)) {
            Check.due("many(0, 0, " + i + ")", s.x.many(0, 0, i), BAD);
            Check.due("pieces(0, 0, " + i + ")", s.x.pieces(0, 0, i), BAD);
        }
    }

    private static void pieceRefused() {
        Check.sentence("Of PIECE p FIRST (part = 0), STRIDE (1), MANY (2). BAD.");
        Scene s = writing(0, 2, 3);
        for (int p : Scene.beyond(0, 1)) {
            Check.due("piece " + p, s.x.piece(WRITTEN, 0, NONE, p, 0), BAD);
        }
        for (int part : Scene.beyond(0, 2)) {
            Check.due("part " + part, s.x.piece(WRITTEN, 0, NONE, 0, part), BAD);
        }
        for (int p = 2; p < 40; p++) {
            Check.due("piece " + p, s.x.piece(WRITTEN, 0, NONE, p, 0), BAD);
        }
        for (int r : Scene.beyond(0, 5)) {
            Check.due("row " + r, s.x.piece(WRITTEN, r, NONE, 0, 0), BAD);
        }
        for (int i : Scene.beyond(-1, 9)) {
            Check.due("turn " + i, s.x.piece(WRITTEN, 0, i, 0, 0), BAD);
        }
        for (int set : Scene.beyond(0, 3)) {
            Check.due("set " + set, s.x.piece(set, 0, NONE, 0, 0), BAD);
        }
        Check.due("of an empty set", s.x.piece(READ, 0, NONE, 0, 0), BAD);
        Check.due("of a turn with one", s.x.piece(WRITTEN, 0, 2, 0, 0), 2);
        Check.due("of a turn with one, the next", s.x.piece(WRITTEN, 0, 2, 1, 0), BAD);
        Check.due("of a turn with none", s.x.piece(WRITTEN, 0, 1, 0, 0), BAD);
    }

    private static void lastTurns() {
        Check.sentence("The last TURN in which a CELL (0 to 23) is WRITTEN (set = 1), SURE (2); NONE.");
        Scene s = new Scene().row(0, 1, CELLS);
        s.tell("copy", 1, Scene.at(0, 0, 0, 0), Scene.constant(0), Scene.constant(0));
        s.tell("copy", 1, Scene.at(0, 23, -1, 0), Scene.constant(0), Scene.constant(0));
        Check.due("without turns", s.x.last(WRITTEN, 0, 0), NONE);
        s.turns(1);
        Check.due("of one turn", s.x.last(WRITTEN, 0, 0), 0);
        s.turns(10);
        for (int set = WRITTEN; set <= SURE; set++) {
            Check.due("of ten turns", s.x.last(set, 0, 0), 9);
            for (int c = 1; c < CELLS; c++) {
                Check.due("cell " + c, s.x.last(set, 0, c), c >= 14 ? 23 - c : NONE);
            }
        }
        s.row(0, 1, 20);
        // turns 0 to 3 write 0 and end at a place that is not there
        Check.due("a cell that is not there", s.x.last(WRITTEN, 0, 23), NONE);
        Check.due("the last one that is", s.x.last(WRITTEN, 0, 19), 4);
        s.x.guard(0, 6, 3);
        Check.due("written, with the turn's fault behind it", s.x.last(WRITTEN, 0, 0), 9);
    }

    private static void lastOfSure() {
        Check.sentence("is WRITTEN (set = 1), SURE (2)");
        Scene s = new Scene().row(0, 1, CELLS).turns(10);
        s.tell("copy", 1, Scene.at(0, 0, 0, 0), Scene.constant(0), Scene.constant(0));
        s.tell("pick", 1, Scene.at(0, 0, 0, 0), Scene.constant(0), Scene.constant(0));
        s.tell("sure", 1, Scene.at(0, 1, 0, 0), Scene.constant(0), Scene.constant(0));
        s.x.guard(0, 6, 1);
        Check.due("written", s.x.last(WRITTEN, 0, 0), 9);
        Check.due("surely", s.x.last(SURE, 0, 0), 7);
        Check.due("written by sure", s.x.last(WRITTEN, 0, 1), 9);
        Check.due("never surely", s.x.last(SURE, 0, 1), NONE);
        s.turns(7);
        Check.due("surely, of less turns", s.x.last(SURE, 0, 0), 1);
    }

    private static void lastRefused() {
        Check.sentence("SURE (2); NONE. BAD.");
        Scene s = new Scene();
        for (int set : Scene.beyond(1, 2)) {
            Check.due("last(" + set + ", 0, 0)", s.x.last(set, 0, 0), BAD);
        }
        for (int r : Scene.beyond(0, 5)) {
            Check.due("last(1, " + r + ", 0)", s.x.last(1, r, 0), BAD);
        }
        for (int c : Scene.beyond(0, 23)) {
            Check.due("last(1, 0, " + c + ")", s.x.last(1, 0, c), BAD);
        }
        Check.due("of a missing row", s.x.last(2, 5, 23), NONE);
        Check.due("that is no finding", s.x.count(8), 0);
    }
}
