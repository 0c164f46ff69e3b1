/** The edges that the document names of rows, a method a sentence: findings, promises 1 to 6. */
public final class EdgesRowsTest {
    private static final int MIN = Integer.MIN_VALUE, MAX = Integer.MAX_VALUE;
    private static final int ROWS = 6, FORMS = 5, MOST_CELLS = 24;

    public static void main(String[] args) {
        missingAtFirst();
        rowsThereAre();
        formsThereAre();
        sizesThereAre();
        newCells();
        findingsAnswer();
        findingNull();
        findingIndex();
        findingCast();
        findingStore();
        findingSize();
        newObject();
        newRow();
        newRowAlone();
        newRowRefused();
        lost();
        lostRefused();
        putShort();
        putInt();
        putReal();
        putTruth();
        putRefused();
        getReal();
        getTruth();
        getRefused();
        copied();
        copiedWithinARow();
        copiedNone();
        copyRefusedForRows();
        copyRefusedForCells();
        Check.end();
    }

    private static void missingAtFirst() {
        Check.sentence("ROWS 0 .. 5 are MISSING (at first)");
        for (int r = 0; r < ROWS; r++) {
            StrideTurns x = new StrideTurns();
            Check.due("count(7)", x.count(7), ROWS);
            Check.due("get(" + r + ", 0)", x.get(r, 0), Scene.refused(Scene.NULL));
            Check.due("row(" + r + ", 1, 1)", x.row(r, 1, 1), 1);
            Check.due("count(7)", x.count(7), ROWS - 1);
            Check.due("get(" + r + ", 0)", x.get(r, 0), 0);
        }
    }

    private static void rowsThereAre() {
        Check.sentence("ROWS 0 .. 5");
        StrideTurns x = new StrideTurns();
        for (int r : Scene.beyond(0, ROWS - 1)) {
            Check.due("row(" + r + ", 1, 1)", x.row(r, 1, 1), StrideTurns.BAD);
        }
        for (int r = 0; r < ROWS; r++) {
            Check.due("row(" + r + ", 1, 2)", x.row(r, 1, 2), 2);
            x.put(r, 1, 1, 100 + r);
        }
        for (int r = 0; r < ROWS; r++) {
            Check.due("get(" + r + ", 1)", x.get(r, 1), 100 + r);
            Check.due("get(" + r + ", 0)", x.get(r, 0), 0);
        }
    }

    private static void formsThereAre() {
        Check.sentence("of a FORM: 0 shorts, 1 ints, 2 floats, 3 doubles, 4 truths");
        int told = 65536 + 9;
        long[] due = {9, told, Float.floatToIntBits(told / 8f), Double.doubleToLongBits(told / 8d), 1};
        StrideTurns x = new StrideTurns();
        for (int form = 0; form < FORMS; form++) {
            Check.due("row(0, " + form + ", 1)", x.row(0, form, 1), 1);
            x.put(0, form, 0, told);
            Check.due("get(0, 0) of form " + form, x.get(0, 0), due[form]);
        }
        for (int form : Scene.beyond(0, FORMS - 1)) {
            Check.due("row(0, " + form + ", 1)", x.row(0, form, 1), StrideTurns.BAD);
            Check.due("put(0, " + form + ", 0, 0)", x.put(0, form, 0, 0), StrideTurns.BAD);
        }
        Check.due("the row of truths is still there", x.get(0, 0), 1);
    }

    private static void sizesThereAre() {
        Check.sentence("with 0 to 24 CELLS");
        for (int form = 0; form < FORMS; form++) {
            StrideTurns x = new StrideTurns();
            for (int n : new int[] {0, 1, 23, MOST_CELLS}) {
                Check.due("row(0, " + form + ", " + n + ")", x.row(0, form, n), n);
                Check.due("put() of cell " + (n - 1), x.put(0, form, n - 1, 1), n == 0 ? Scene.INDEX : 1);
                Check.due("put() of cell " + n, x.put(0, form, n, 1), Scene.INDEX);
                Check.due("lose(0)", x.lose(0), n);
            }
            for (int n : new int[] {MOST_CELLS + 1, 2 * MOST_CELLS, MAX}) {
                Check.due("row(0, " + form + ", " + n + ")", x.row(0, form, n), StrideTurns.BAD);
            }
            Check.due("count(7)", x.count(7), ROWS);
        }
    }

    private static void newCells() {
        Check.sentence("CELLS (0, or false)");
        for (int form = 0; form < FORMS; form++) {
            StrideTurns x = new StrideTurns();
            for (int time = 0; time < 2; time++) {
                x.row(3, form, MOST_CELLS);
                for (int i = 0; i < MOST_CELLS; i++) {
                    Check.due("get(3, " + i + ") of form " + form, x.get(3, i), 0);
                    x.put(3, form, i, 77);
                }
            }
        }
    }

    private static void findingsAnswer() {
        Check.sentence("FINDINGS (answers -10 less the number; they change nothing but count() 8)");
        Scene s = new Scene().row(0, 1, 3, 7, 8, 9).row(1, 2, 3, 7).turns(3);
        s.tell("add", 1, Scene.at(0, 0, 1, 0), Scene.at(0, 0, 1, 0), Scene.constant(2));
        s.x.run();
        long before = s.x.digest();
        Check.due("count(8) ahead", s.x.count(8), 0);
        Check.due("SIZE", s.x.row(0, 1, -1), -15);
        Check.due("count(8)", s.x.count(8), 5);
        Check.due("STORE", s.x.copy(0, 0, 1, 0, 1), -14);
        Check.due("count(8)", s.x.count(8), 4);
        Check.due("CAST", s.x.put(0, 2, 0, 1), -13);
        Check.due("count(8)", s.x.count(8), 3);
        Check.due("INDEX", s.x.put(0, 1, 3, 1), -12);
        Check.due("count(8)", s.x.count(8), 2);
        Check.due("NULL", s.x.lose(5), -11);
        Check.due("count(8)", s.x.count(8), 1);
        Check.due("digest()", s.x.digest(), before);
        Check.due("what may be undone", s.x.count(2), 8);
        Check.due("a call that is done leaves it", s.x.put(0, 1, 0, 1), 1);
        Check.due("count(8)", s.x.count(8), 1);
    }

    private static void findingNull() {
        Check.sentence("1 NULL: the ROW is MISSING");
        for (boolean lost : new boolean[] {false, true}) {
            StrideTurns x = new StrideTurns();
            x.row(1, 1, 2);
            if (lost) {
                x.row(0, 1, 2);
                x.lose(0);
            }
            Check.due("lose(0)", x.lose(0), Scene.NULL);
            Check.due("put(0, 1, 0, 5)", x.put(0, 1, 0, 5), Scene.NULL);
            Check.due("get(0, 0)", x.get(0, 0), Scene.refused(Scene.NULL));
            Check.due("copy(0, 0, 1, 0, 1)", x.copy(0, 0, 1, 0, 1), Scene.NULL);
            Check.due("copy(1, 0, 0, 0, 1)", x.copy(1, 0, 0, 0, 1), Scene.NULL);
            Check.due("would(0, 1)", x.would(0, 1), Scene.NULL);
            Check.due("writer(0, 0)", x.writer(0, 0), Scene.NULL);
            Check.due("count(8)", x.count(8), 1);
            x.row(0, 1, 1);
            Check.due("get(0, 0) of a new one", x.get(0, 0), 0);
        }
    }

    private static void findingIndex() {
        Check.sentence("2 INDEX: there is no such CELL");
        for (int n : new int[] {0, 1, 7, MOST_CELLS}) {
            // the rows on both sides have all their cells, which are none of this one's
            Scene s = new Scene().row(1, 1, MOST_CELLS).row(2, 1, n).row(3, 1, MOST_CELLS);
            for (int i : Scene.beyond(0, n - 1)) {
                Check.due("put(2, 1, " + i + ", 5) of " + n, s.x.put(2, 1, i, 5), Scene.INDEX);
                Check.due("get(2, " + i + ") of " + n, s.x.get(2, i), Scene.refused(Scene.INDEX));
                Check.due("writer(2, " + i + ") of " + n, s.x.writer(2, i), Scene.INDEX);
            }
            Check.due("count(8)", s.x.count(8), 2);
            for (int i : n == 0 ? new int[0] : new int[] {0, n - 1}) {
                Check.due("put(2, 1, " + i + ", 5) of " + n, s.x.put(2, 1, i, 5), 1);
                Check.due("get(2, " + i + ") of " + n, s.x.get(2, i), 5);
                Check.due("writer(2, " + i + ") of " + n, s.x.writer(2, i), StrideTurns.NONE);
            }
        }
    }

    private static void findingCast() {
        Check.sentence("3 CAST: it has another FORM");
        for (int form = 0; form < FORMS; form++) {
            Scene s = new Scene().row(0, form, 1);
            for (int as = 0; as < FORMS; as++) {
                Check.due("put() of form " + form + " as of " + as, s.x.put(0, as, 0, 1), as == form ? 1 : Scene.CAST);
            }
            Check.due("count(8)", s.x.count(8), 3);
        }
    }

    private static void findingStore() {
        Check.sentence("4 STORE: unlike FORMS");
        for (int form = 0; form < FORMS; form++) {
            for (int other = 0; other < FORMS; other++) {
                Scene s = new Scene().row(0, form, 1, 9).row(1, other, 1);
                Check.due("copy() of form " + form + " to " + other, s.x.copy(0, 0, 1, 0, 1), form == other ? 1 : Scene.STORE);
                Check.due("count(8)", s.x.count(8), form == other ? 0 : 4);
                Check.due("the cell is " + (form == other ? "copied" : "0"), s.x.get(1, 0), form == other ? s.x.get(0, 0) : 0);
            }
        }
    }

    private static void findingSize() {
        Check.sentence("5 SIZE: below 0");
        StrideTurns x = new StrideTurns();
        for (int n : new int[] {-1, -2, -24, -25, MIN}) {
            Check.due("row(0, 1, " + n + ")", x.row(0, 1, n), Scene.SIZE);
            Check.due("count(8)", x.count(8), 5);
            Check.due("there is none", x.count(7), ROWS);
        }
        Check.due("row(0, 1, 0)", x.row(0, 1, 0), 0);
    }

    private static void newObject() {
        Check.sentence("All ROWS are MISSING; no TURNS, no STATEMENTS; THE TEXT is empty.");
        StrideTurns x = new StrideTurns();
        Check.due("rows that are missing", x.count(7), ROWS);
        Check.due("turns", x.count(0), 0);
        Check.due("statements", x.count(1), 0);
        Check.due("bytes of the text", x.count(3), 0);
        Check.due("statement(1)", x.statement(1), StrideTurns.NOT);
        Check.due("wipe()", x.wipe(), 0);
        Check.due("turns(3)", x.turns(3), 0);
        Scene used = new Scene().row(0, 1, 3).turns(2);
        used.state("add", 1);
        Check.due("another object's rows", x.count(7), ROWS);
        Check.due("another object's statements", x.count(1), 0);
    }

    private static void newRow() {
        Check.sentence("A new ROW of a FORM with n CELLS: n.");
        StrideTurns x = new StrideTurns();
        for (int n : new int[] {MOST_CELLS, 0, 5, 3}) {
            for (int form = 0; form < FORMS; form++) {
                Check.due("row(2, " + form + ", " + n + ")", x.row(2, form, n), n);
                Check.due("it is of that form", x.put(2, form, n - 1, 1), n == 0 ? Scene.INDEX : 1);
                Check.due("and has no more", x.put(2, form, n, 1), Scene.INDEX);
                Check.due("its first cell is new", x.get(2, 0), n == 0 ? Scene.refused(Scene.INDEX) : 0);
            }
        }
        Check.due("one row alone is made", x.count(7), ROWS - 1);
    }

    private static void newRowAlone() {
        Check.sentence("A new ROW of a FORM with n CELLS");
        // the first and last cells of the rows on both sides stay, and who wrote them
        for (int r = 0; r < ROWS; r++) {
            for (boolean lost : new boolean[] {false, true}) {
                Scene s = new Scene().turns(1);
                for (int all = 0; all < ROWS; all++) {
                    s.row(all, 1, MOST_CELLS);
                }
                for (int k = 0; k < 5; k++) {
                    s.tell("add", 5, Scene.at(k < r ? k : k + 1, 0, 0, 1), Scene.constant(7), Scene.constant(k));
                }
                s.x.run();
                for (int k = 0; k < 5; k++) {
                    s.x.place(k, Scene.TARGET, 23, 0, -1);
                }
                s.x.put(r, 1, 0, 9);
                s.x.put(r, 1, 23, 9);
                s.x.run();
                if (lost) {
                    s.x.lose(r);
                } else {
                    s.row(r, 1, MOST_CELLS);
                }
                for (int k = 0; k < 5; k++) {
                    int other = k < r ? k : k + 1;
                    for (int i = 0; i < MOST_CELLS; i++) {
                        Check.due("get(" + other + ", " + i + ")", s.x.get(other, i), i < 5 || i > 18 ? 7 + k : 0);
                    }
                    Check.due("writer(" + other + ", 23)", s.x.writer(other, 23), 0);
                    Check.due("writer(" + other + ", 19)", s.x.writer(other, 19), 0);
                    Check.due("writer(" + other + ", 18)", s.x.writer(other, 18), StrideTurns.NONE);
                }
            }
        }
    }

    private static void newRowRefused() {
        Check.sentence("BAD: ROW, FORM, above 24; SIZE.");
        Scene s = new Scene().row(0, 1, 2, 5, 6);
        Check.due("a row", s.x.row(6, 1, 2), StrideTurns.BAD);
        Check.due("a row, ahead of SIZE", s.x.row(-1, 1, -1), StrideTurns.BAD);
        Check.due("a form", s.x.row(0, 5, 2), StrideTurns.BAD);
        Check.due("a form, ahead of SIZE", s.x.row(0, -1, -1), StrideTurns.BAD);
        Check.due("25 cells", s.x.row(0, 1, 25), StrideTurns.BAD);
        Check.due("no finding was made", s.x.count(8), 0);
        Check.due("-1 cells", s.x.row(0, 1, -1), Scene.SIZE);
        Check.due("the row stays", s.x.get(0, 1), 6);
    }

    private static void lost() {
        Check.sentence("It is MISSING: how many CELLS it had.");
        for (int n : new int[] {0, 1, MOST_CELLS}) {
            for (int r = 0; r < ROWS; r++) {
                Scene s = new Scene().row(r, 2, n).row((r + 1) % ROWS, 2, 3);
                Check.due("lose(" + r + ")", s.x.lose(r), n);
                Check.due("one is left", s.x.count(7), ROWS - 1);
                Check.due("the other one", s.x.lose((r + 1) % ROWS), 3);
                Check.due("none is left", s.x.count(7), ROWS);
            }
        }
    }

    private static void lostRefused() {
        Check.sentence("`int lose(int r)`: It is MISSING: how many CELLS it had. BAD; NULL.");
        Scene s = new Scene().row(5, 1, 4);
        for (int r : Scene.beyond(0, ROWS - 1)) {
            Check.due("lose(" + r + ")", s.x.lose(r), StrideTurns.BAD);
        }
        Check.due("lose(5)", s.x.lose(5), 4);
        Check.due("lose(5) again", s.x.lose(5), Scene.NULL);
    }

    private static void putShort() {
        Check.sentence("a short its lowest bits");
        int[][] told = {{0, 0}, {32767, 32767}, {32768, -32768}, {65535, -1}, {65536, 0}, {65537, 1}, {-1, -1}, {-32768, -32768},
            {-32769, 32767}, {MAX, -1}, {MIN, 0}, {MIN + 1, 1}, {MAX - 32768, 32767}};
        Scene s = new Scene().row(0, Scene.SHORTS, 1);
        for (int[] t : told) {
            Check.due("put(0, 0, 0, " + t[0] + ")", s.x.put(0, Scene.SHORTS, 0, t[0]), 1);
            Check.due("get(0, 0)", s.x.get(0, 0), t[1]);
        }
    }

    private static void putInt() {
        Check.sentence("an int itself, a float, a double v by 8");
        Scene s = new Scene().row(0, Scene.INTS, 1);
        for (int v : new int[] {0, 1, -1, 32768, -32769, 16777217, MAX, MAX - 1, MIN, MIN + 1}) {
            Check.due("put(0, 1, 0, " + v + ")", s.x.put(0, Scene.INTS, 0, v), 1);
            Check.due("get(0, 0)", s.x.get(0, 0), v);
        }
    }

    private static void putReal() {
        Check.sentence("a float, a double v by 8");
        Scene s = new Scene().row(0, Scene.FLOATS, 1).row(1, Scene.DOUBLES, 1);
        // from 16777217 on a float has not all of them
        for (int v : new int[] {0, 1, -1, 8, 16777216, 16777217, 16777219, -16777217, MAX, MAX - 64, MIN, MIN + 1}) {
            Check.due("put(0, 2, 0, " + v + ")", s.x.put(0, Scene.FLOATS, 0, v), 1);
            Check.due("the float", s.x.get(0, 0), Float.floatToIntBits((float) (v / 8d)));
            Check.due("put(1, 3, 0, " + v + ")", s.x.put(1, Scene.DOUBLES, 0, v), 1);
            Check.due("the double", s.x.get(1, 0), Double.doubleToLongBits(v / 8d));
        }
    }

    private static void putTruth() {
        Check.sentence("a truth true, if v is odd: 1.");
        Scene s = new Scene().row(0, Scene.TRUTHS, 1);
        int[] odd = {1, -1, 3, -3, MAX, MIN + 1};
        int[] even = {0, 2, -2, 256, MAX - 1, MIN};
        for (int n = 0; n < odd.length; n++) {
            Check.due("put(0, 4, 0, " + odd[n] + ")", s.x.put(0, Scene.TRUTHS, 0, odd[n]), 1);
            Check.due("get(0, 0)", s.x.get(0, 0), 1);
            Check.due("put(0, 4, 0, " + even[n] + ")", s.x.put(0, Scene.TRUTHS, 0, even[n]), 1);
            Check.due("get(0, 0)", s.x.get(0, 0), 0);
        }
    }

    private static void putRefused() {
        Check.sentence("1. BAD; NULL; CAST; INDEX.");
        Scene s = new Scene().row(0, 1, 2, 5, 6);
        Check.due("no row", s.x.put(6, 1, 0, 9), StrideTurns.BAD);
        Check.due("no form", s.x.put(0, 5, 0, 9), StrideTurns.BAD);
        Check.due("a missing row", s.x.put(5, 1, 0, 9), Scene.NULL);
        Check.due("another form", s.x.put(0, 0, 0, 9), Scene.CAST);
        Check.due("no cell", s.x.put(0, 1, 2, 9), Scene.INDEX);
        Check.due("no cell", s.x.put(0, 1, -1, 9), Scene.INDEX);
        Check.due("get(0, 0)", s.x.get(0, 0), 5);
        Check.due("get(0, 1)", s.x.get(0, 1), 6);
    }

    private static void getReal() {
        Check.sentence("the bits of a float as an int, of a double as a long (floatToIntBits, doubleToLongBits)");
        Scene s = new Scene().row(0, Scene.FLOATS, 1).row(1, Scene.DOUBLES, 1);
        // below 0 the bits of a float are an int below 0; powers of two have no bits behind the first
        for (int v = 1; v != 0; v <<= 1) {
            for (int near : new int[] {v - 1, v, v + 1, -v}) {
                s.x.put(0, Scene.FLOATS, 0, near);
                Check.due("float " + near + " by 8", s.x.get(0, 0), Float.floatToIntBits(near / 8f));
            }
            s.x.put(1, Scene.DOUBLES, 0, -v);
            Check.due("double " + -v + " by 8", s.x.get(1, 0), Double.doubleToLongBits(-v / 8d));
            s.x.put(1, Scene.DOUBLES, 0, v - 1);
            Check.due("double " + (v - 1) + " by 8", s.x.get(1, 0), Double.doubleToLongBits((v - 1) / 8d));
        }
    }

    private static void getTruth() {
        Check.sentence("a truth 1, 0.");
        Scene s = new Scene().row(0, Scene.TRUTHS, 2, 7, 6);
        Check.due("true", s.x.get(0, 0), 1);
        Check.due("false", s.x.get(0, 1), 0);
    }

    private static void getRefused() {
        Check.sentence("a truth 1, 0. BAD; NULL; INDEX.");
        Scene s = new Scene().row(0, 1, 2, 5, 6);
        Check.due("no row", s.x.get(6, 0), Long.MIN_VALUE + 2);
        Check.due("no row", s.x.get(-1, 0), Long.MIN_VALUE + 2);
        Check.due("a missing row", s.x.get(5, 0), Long.MIN_VALUE + 11);
        Check.due("no cell", s.x.get(0, 2), Long.MIN_VALUE + 12);
        Check.due("no cell", s.x.get(0, -1), Long.MIN_VALUE + 12);
    }

    private static void cells(Scene s, int r, int... due) {
        for (int i = 0; i < due.length; i++) {
            Check.due("get(" + r + ", " + i + ")", s.x.get(r, i), due[i]);
        }
    }

    private static void copied() {
        Check.sentence("n CELLS of ROW r, from i on, come to ROW t");
        Scene s = new Scene().row(0, 1, 4, 1, 2, 3, 4).row(1, 1, 4, 5, 6, 7, 8);
        Check.due("the last cell to the first", s.x.copy(0, 3, 1, 0, 1), 1);
        cells(s, 1, 4, 6, 7, 8);
        Check.due("the first cells to the last", s.x.copy(0, 0, 1, 2, 2), 1);
        cells(s, 1, 4, 6, 1, 2);
        Check.due("all", s.x.copy(1, 0, 0, 0, 4), 1);
        cells(s, 0, 4, 6, 1, 2);
        s.row(2, 3, MOST_CELLS).row(3, 3, MOST_CELLS);
        s.x.put(2, 3, 23, 80);
        Check.due("all of the greatest row", s.x.copy(2, 0, 3, 0, MOST_CELLS), 1);
        Check.due("its last cell", s.x.get(3, 23), Double.doubleToLongBits(10));
    }

    private static void copiedWithinARow() {
        Check.sentence("come to ROW t (perhaps r, as they were)");
        Scene s = new Scene().row(0, 1, 5, 1, 2, 3, 4, 5);
        Check.due("up by one", s.x.copy(0, 0, 0, 1, 4), 1);
        cells(s, 0, 1, 1, 2, 3, 4);
        Check.due("down by one", s.x.copy(0, 1, 0, 0, 4), 1);
        cells(s, 0, 1, 2, 3, 4, 4);
        Check.due("onto themselves", s.x.copy(0, 0, 0, 0, 5), 1);
        cells(s, 0, 1, 2, 3, 4, 4);
    }

    private static void copiedNone() {
        Check.sentence("(of n 0, too: i or j above the size)");
        for (int n : new int[] {0, 3, MOST_CELLS}) {
            Scene s = new Scene().row(0, 1, n).row(1, 1, 5);
            Check.due("none from the end of " + n, s.x.copy(0, n, 1, 0, 0), 1);
            Check.due("none to the end of " + n, s.x.copy(1, 5, 0, n, 0), 1);
            Check.due("none from behind the end of " + n, s.x.copy(0, n + 1, 1, 0, 0), Scene.INDEX);
            Check.due("none to behind the end of " + n, s.x.copy(1, 5, 0, n + 1, 0), Scene.INDEX);
            Check.due("none from far behind the end", s.x.copy(0, MAX, 1, 0, 0), Scene.INDEX);
            Check.due("none to below the row", s.x.copy(1, 0, 0, -1, 0), Scene.INDEX);
        }
    }

    private static void copyRefusedForRows() {
        Check.sentence("BAD: the ROWS; NULL: r, t; STORE");
        Scene s = new Scene().row(0, 1, 2, 5, 6).row(1, 1, 2, 7, 8).row(2, 0, 2);
        for (int r : Scene.beyond(0, ROWS - 1)) {
            Check.due("copy(" + r + ", 0, 1, 0, 1)", s.x.copy(r, 0, 1, 0, 1), StrideTurns.BAD);
            Check.due("copy(0, 0, " + r + ", 0, 1)", s.x.copy(0, 0, r, 0, 1), StrideTurns.BAD);
        }
        Check.due("r missing", s.x.copy(3, 0, 1, 0, 1), Scene.NULL);
        Check.due("t missing", s.x.copy(0, 0, 3, 0, 1), Scene.NULL);
        Check.due("to another form", s.x.copy(0, 0, 2, 0, 1), Scene.STORE);
        cells(s, 0, 5, 6);
        cells(s, 1, 7, 8);
        cells(s, 2, 0, 0);
    }

    private static void copyRefusedForCells() {
        Check.sentence("INDEX: i, j or n below 0, not so many there");
        Scene s = new Scene().row(0, 1, 4, 1, 2, 3, 4).row(1, 1, 3, 5, 6, 7).row(2, 1, 24);
        int[][] refused = {{-1, 0, 1}, {0, -1, 1}, {0, 0, -1}, {1, 1, -1}, {0, 0, 4}, {1, 0, 4}, {3, 0, 2}, {0, 1, 3}, {0, 2, 2},
            {4, 0, 1}, {0, 3, 1}, {MAX, 0, 2}, {0, MAX, 2}, {1, 0, MAX}, {MAX, MAX, MAX}, {MIN, 0, 1}, {0, MIN, 1}, {0, 0, MIN}};
        for (int[] a : refused) {
            String call = "copy(0, " + a[0] + ", 1, " + a[1] + ", " + a[2] + ")";
            Check.due(call, s.x.copy(0, a[0], 1, a[1], a[2]), Scene.INDEX);
        }
        cells(s, 1, 5, 6, 7);
        Check.due("as many as there are", s.x.copy(0, 1, 1, 0, 3), 1);
        cells(s, 1, 2, 3, 4);
    }
}
