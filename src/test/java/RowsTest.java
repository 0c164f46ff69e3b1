/** Promises 1 to 6: rows. */
public final class RowsTest {
    private static final int MIN = Integer.MIN_VALUE, MAX = Integer.MAX_VALUE;

    public static void main(String[] args) {
        newObject();
        row();
        lose();
        put();
        get();
        getFloats();
        copy();
        copyRefused();
        findingsChangeOnlyTheirNumber();
        Check.end();
    }

    private static void newObject() {
        StrideTurns x = new StrideTurns();
        int[] due = {0, 0, 0, 0, 1, 0, 0, 6, 0};
        for (int what = 0; what < due.length; what++) {
            Check.due(1, "count(" + what + ")", x.count(what), due[what]);
        }
        Check.due(1, "wipe()", x.wipe(), 0);
        Check.due(1, "undo()", x.undo(), -3);
        Check.due(1, "run()", x.run(), 0);
        Check.due(1, "info(0, 0)", x.info(0, 0), -2);
        for (int r = 0; r < 6; r++) {
            Check.due(1, "lose(" + r + ")", x.lose(r), Scene.NULL);
        }
    }

    private static void row() {
        StrideTurns x = new StrideTurns();
        Check.due(2, "no cells", x.row(0, 0, 0), 0);
        Check.due(2, "no cell 0", x.put(0, 0, 0, 1), Scene.INDEX);
        Check.due(2, "most cells", x.row(5, 4, 24), 24);
        Check.due(2, "cell 23", x.put(5, 4, 23, 1), 1);
        Check.due(2, "false at first", x.get(5, 22), 0);
        Check.due(2, "row below", x.row(-1, 0, 1), -2);
        Check.due(2, "row above", x.row(6, 0, 1), -2);
        Check.due(2, "form below", x.row(0, -1, 1), -2);
        Check.due(2, "form above", x.row(0, 5, 1), -2);
        Check.due(2, "too many", x.row(0, 1, 25), -2);
        Check.due(2, "far too many", x.row(0, 1, MAX), -2);
        Check.due(2, "no finding yet", x.count(8), 2);
        Check.due(2, "size below 0", x.row(0, 1, -1), Scene.SIZE);
        Check.due(2, "least size", x.row(0, 1, MIN), Scene.SIZE);
        Check.due(2, "finding", x.count(8), 5);
        Check.due(2, "bad row first", x.row(6, 1, -1), -2);
        Check.due(2, "bad form first", x.row(0, 5, -1), -2);
        Check.due(2, "still without cells", x.lose(0), 0);
        for (int form = 0; form < 4; form++) {
            Check.due(2, "form " + form, x.row(1, form, 3), 3);
            Check.due(2, "0 at first", x.get(1, 2), 0);
            Check.due(2, "of that form", x.put(1, form, 2, 9), 1);
        }
        x.row(1, 3, 4);
        Check.due(2, "a new one has 0 again", x.get(1, 2), 0);
        Check.due(2, "and its own size", x.lose(1), 4);
    }

    private static void lose() {
        StrideTurns x = new StrideTurns();
        x.row(2, 1, 7);
        Check.due(3, "lose(-1)", x.lose(-1), -2);
        Check.due(3, "lose(6)", x.lose(6), -2);
        Check.due(3, "count(7) ahead", x.count(7), 5);
        Check.due(3, "lose(2)", x.lose(2), 7);
        Check.due(3, "count(7) behind", x.count(7), 6);
        Check.due(3, "no finding", x.count(8), 0);
        Check.due(3, "lose(2) again", x.lose(2), Scene.NULL);
        Check.due(3, "finding", x.count(8), 1);
        Check.due(3, "get() of it", x.get(2, 0), Scene.refused(Scene.NULL));
    }

    private static void put() {
        StrideTurns x = new StrideTurns();
        for (int form = 0; form <= 4; form++) {
            x.row(form, form, 3);
        }
        Check.due(4, "a short", x.put(0, 0, 0, 70000), 1);
        Check.due(4, "its lowest bits", x.get(0, 0), 4464);
        x.put(0, 0, 1, 40000);
        Check.due(4, "its lowest bits, below 0", x.get(0, 1), -25536);
        x.put(1, 1, 2, MIN);
        Check.due(4, "an int", x.get(1, 2), MIN);
        x.put(2, 2, 0, -20);
        Check.due(4, "a float", x.get(2, 0), Float.floatToIntBits(-2.5f));
        x.put(3, 3, 0, 1);
        Check.due(4, "a double", x.get(3, 0), Double.doubleToLongBits(0.125));
        x.put(4, 4, 0, -3);
        x.put(4, 4, 1, MAX - 1);
        Check.due(4, "an odd truth", x.get(4, 0), 1);
        Check.due(4, "an even truth", x.get(4, 1), 0);
        x.put(4, 4, 0, 2);
        Check.due(4, "a truth that is false again", x.get(4, 0), 0);
        Check.due(4, "row below", x.put(-1, 1, 0, 0), -2);
        Check.due(4, "row above", x.put(6, 1, 0, 0), -2);
        Check.due(4, "form below", x.put(1, -1, 0, 0), -2);
        Check.due(4, "form above", x.put(1, 5, 0, 0), -2);
        Check.due(4, "bad form of a missing row", x.put(5, 5, 0, 0), -2);
        Check.due(4, "missing", x.put(5, 1, -1, 0), Scene.NULL);
        Check.due(4, "another form ahead of no cell", x.put(0, 1, 9, 0), Scene.CAST);
        Check.due(4, "finding", x.count(8), 3);
        Check.due(4, "no such cell", x.put(0, 0, 3, 0), Scene.INDEX);
        Check.due(4, "no cell below 0", x.put(0, 0, -1, 0), Scene.INDEX);
        Check.due(4, "no cell of the least", x.put(0, 0, MIN, 0), Scene.INDEX);
        Check.due(4, "finding", x.count(8), 2);
        Check.due(4, "nothing is changed", x.get(0, 0), 4464);
    }

    private static void get() {
        Scene s = new Scene().row(0, 0, 2, -5).row(4, 4, 1, 1);
        Check.due(5, "a short", s.x.get(0, 0), -5);
        Check.due(5, "a truth", s.x.get(4, 0), 1);
        Check.due(5, "row below", s.x.get(-1, 0), Scene.refused(-2));
        Check.due(5, "row above", s.x.get(6, 0), Scene.refused(-2));
        Check.due(5, "not a finding", s.x.count(8), 0);
        Check.due(5, "missing", s.x.get(1, -1), Scene.refused(Scene.NULL));
        Check.due(5, "finding", s.x.count(8), 1);
        Check.due(5, "no such cell", s.x.get(0, 2), Long.MIN_VALUE + 12);
        Check.due(5, "no cell below 0", s.x.get(0, -1), Long.MIN_VALUE + 12);
        Check.due(5, "no cell of the greatest", s.x.get(0, MAX), Long.MIN_VALUE + 12);
        Check.due(5, "finding", s.x.count(8), 2);
    }

    private static void getFloats() {
        StrideTurns x = new StrideTurns();
        x.row(2, 2, 1);
        x.row(3, 3, 1);
        int[] told = {0, 1, -1, 2, 7, 8, -8, 100, 16777217, 16777219, -33554435, 123456789, MAX, MIN, MIN + 1, MAX - 63};
        for (int v : told) {
            x.put(2, 2, 0, v);
            x.put(3, 3, 0, v);
            Check.due(5, "float " + v + " by 8", x.get(2, 0), Float.floatToIntBits(v / 8f));
            Check.due(5, "double " + v + " by 8", x.get(3, 0), Double.doubleToLongBits(v / 8d));
        }
    }

    private static void copy() {
        Scene s = new Scene().row(0, 1, 5, 1, 2, 3, 4, 5).row(1, 1, 3, 7, 8, 9).row(2, 4, 2, 1, 1).row(3, 4, 2);
        Check.due(6, "to another row", s.x.copy(0, 3, 1, 1, 2), 1);
        cells(s, 1, 7, 4, 5);
        Check.due(6, "upwards within a row", s.x.copy(0, 0, 0, 1, 4), 1);
        cells(s, 0, 1, 1, 2, 3, 4);
        Check.due(6, "downwards within a row", s.x.copy(0, 2, 0, 0, 3), 1);
        cells(s, 0, 2, 3, 4, 3, 4);
        Check.due(6, "none at the ends", s.x.copy(0, 5, 1, 3, 0), 1);
        Check.due(6, "all", s.x.copy(1, 0, 0, 2, 3), 1);
        cells(s, 0, 2, 3, 7, 4, 5);
        Check.due(6, "truths", s.x.copy(2, 0, 3, 0, 2), 1);
        cells(s, 3, 1, 1);
        s.turns(2).state("add", 1);
        s.x.mask(0, 3);
        Check.due(6, "truths come to a mask", s.x.info(0, 6), 2);
        s.x.put(2, 4, 0, 0);
        Check.due(6, "of a row that stays its own", s.x.info(0, 6), 2);
        s.x.copy(2, 0, 3, 0, 1);
        Check.due(6, "and go from it", s.x.info(0, 6), 1);
    }

    private static void cells(Scene s, int r, int... due) {
        for (int i = 0; i < due.length; i++) {
            Check.due(6, "get(" + r + ", " + i + ")", s.x.get(r, i), due[i]);
        }
    }

    private static void copyRefused() {
        Scene s = new Scene().row(0, 1, 5, 1, 2, 3, 4, 5).row(1, 1, 3).row(2, 0, 3);
        Check.due(6, "row below", s.x.copy(-1, 0, 3, 0, 0), -2);
        Check.due(6, "row above", s.x.copy(0, 0, 6, 0, 0), -2);
        Check.due(6, "missing", s.x.copy(3, 0, 0, 0, -1), Scene.NULL);
        Check.due(6, "the other one missing", s.x.copy(0, 0, 3, 0, -1), Scene.NULL);
        Check.due(6, "both missing", s.x.copy(3, 0, 3, 0, 0), Scene.NULL);
        Check.due(6, "unlike, ahead of no cell", s.x.copy(0, 9, 2, 9, 9), Scene.STORE);
        Check.due(6, "finding", s.x.count(8), 4);
        int[][] bad = {{-1, 0, 1}, {0, -1, 1}, {0, 0, -1}, {3, 0, 3}, {0, 1, 3}, {6, 0, 0}, {0, 4, 0}, {MAX, 0, 1},
            {0, MAX, 1}, {1, 1, MAX}, {MIN, 0, 1}, {0, MIN, 0}, {0, 0, MIN}, {MAX, MAX, MAX}, {5, 0, MAX}};
        for (int[] b : bad) {
            Check.due(6, "copy(0, " + b[0] + ", 1, " + b[1] + ", " + b[2] + ")", s.x.copy(0, b[0], 1, b[1], b[2]), Scene.INDEX);
        }
        Check.due(6, "finding", s.x.count(8), 2);
        cells(s, 1, 0, 0, 0);
    }

    private static void findingsChangeOnlyTheirNumber() {
        Scene s = new Scene().row(0, 1, 3, 4, 5, 6).turns(3);
        s.tell("add", 1, Scene.at(0, 0, 1, 0), Scene.at(0, 0, 1, 0), Scene.constant(2));
        s.x.run();
        long before = s.x.digest();
        s.x.lose(3);
        s.x.put(3, 0, 0, 0);
        s.x.put(0, 0, 0, 1);
        s.x.put(0, 1, 3, 1);
        s.x.row(0, 1, -4);
        s.x.copy(0, 0, 0, 0, 4);
        s.x.writer(4, 0);
        s.x.would(4, 0);
        s.x.get(0, 3);
        Check.due(4, "digest() behind findings", s.x.digest(), before);
        Check.due(4, "the latest finding", s.x.count(8), 2);
    }
}
