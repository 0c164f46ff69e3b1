/** Promises 7 to 17: the loop. */
public final class LoopTest {
    private static final int MIN = Integer.MIN_VALUE, MAX = Integer.MAX_VALUE;

    public static void main(String[] args) {
        turns();
        type();
        wipe();
        statement();
        statementRefused();
        refer();
        place();
        guard();
        mask();
        undoEach();
        undoDepth();
        undoStatements();
        info();
        family();
        familyOfForms();
        reference();
        Check.end();
    }

    private static void turns() {
        StrideTurns x = new StrideTurns();
        Check.due(7, "turns(10)", x.turns(10), 0);
        Check.due(7, "turns(0)", x.turns(0), 10);
        Check.due(7, "turns(4)", x.turns(4), 0);
        for (int n : new int[] {-1, 11, MIN, MAX}) {
            Check.due(7, "turns(" + n + ")", x.turns(n), -2);
        }
        Check.due(7, "count(0)", x.count(0), 4);
        Check.due(7, "refused ones are not told", x.count(2), 3);
    }

    private static void type() {
        StrideTurns x = new StrideTurns();
        Check.due(8, "type(0)", x.type(0), 1);
        Check.due(8, "type(255)", x.type(255), 2);
        Check.due(8, "type(-1)", x.type(-1), -2);
        Check.due(8, "type(256)", x.type(256), -2);
        Check.due(8, "type(" + MIN + ")", x.type(MIN), -2);
        for (int due = 3; due <= 5; due++) {
            Check.due(8, "type(97)", x.type(97), due);
        }
        Check.due(8, "a sixth", x.type(97), -4);
        Check.due(8, "a bad sixth", x.type(256), -2);
        Check.due(8, "count(3)", x.count(3), 5);
        Check.due(8, "nothing to undo", x.count(2), 0);
    }

    private static void wipe() {
        Scene s = new Scene();
        s.type("add");
        Check.due(9, "wipe()", s.x.wipe(), 3);
        Check.due(9, "count(3)", s.x.count(3), 0);
        Check.due(9, "wipe() again", s.x.wipe(), 0);
        s.type("times");
        Check.due(9, "the next text", s.x.statement(1), 0);
        Check.due(9, "is alone", s.x.info(0, 0), 12);
    }

    private static void statement() {
        String[] names = {"add", "sub", "mul", "rem", "max", "min", "and", "or", "xor", "copy", "pick", "sure", "times"};
        for (int operation = 0; operation < names.length; operation++) {
            Scene s = new Scene();
            Check.due(10, names[operation], s.state(names[operation], 1 + operation % 5), 0);
            Check.due(10, names[operation] + ": operation", s.x.info(0, 0), operation);
            Check.due(10, names[operation] + ": count", s.x.info(0, 1), 1 + operation % 5);
            Check.due(10, names[operation] + ": the text", s.x.count(3), 0);
        }
        Scene s = new Scene();
        s.state("mul", 5);
        int[] due = {2, 5, 1, 0, -1, 0, 0};
        for (int what = 0; what < due.length; what++) {
            Check.due(10, "info(0, " + what + ")", s.x.info(0, what), due[what]);
        }
        for (int which = 0; which < 3; which++) {
            Check.due(10, "to which row", s.x.reference(0, which, 0), which == 0 ? 0 : -1);
            for (int what = 1; what < 4; what++) {
                Check.due(10, "reference(0, " + which + ", " + what + ")", s.x.reference(0, which, what), 0);
            }
        }
        for (int k = 1; k < 5; k++) {
            Check.due(10, "one more", s.state("or", 2), k);
        }
        s.type("or");
        Check.due(10, "a sixth", s.x.statement(2), -4);
        Check.due(10, "a sixth keeps the text", s.x.count(3), 2);
        Check.due(10, "a bad sixth", s.x.statement(6), -2);
        s.type("s");
        Check.due(10, "a sixth without a name", s.x.statement(2), -3);
        Check.due(10, "count(1)", s.x.count(1), 5);
    }

    private static void statementRefused() {
        Scene s = new Scene();
        Check.due(10, "no text", s.x.statement(1), -3);
        Check.due(10, "no text, no count", s.x.statement(0), -2);
        for (String text : new String[] {"ad", "addd", "Add", "ADD", "x", "time", "none", "orr", "rex", " or", "sum"}) {
            s.type(text);
            Check.due(10, text, s.x.statement(1), -3);
            Check.due(10, text + " stays", s.x.wipe(), text.length());
        }
        s.type("add");
        for (int count : new int[] {0, 6, -1, MIN, MAX}) {
            Check.due(10, "statement(" + count + ")", s.x.statement(count), -2);
        }
        Check.due(10, "the text stays", s.x.count(3), 3);
        Check.due(10, "nothing is told", s.x.count(2), 0);
        Check.due(10, "statement(5)", s.x.statement(5), 0);
    }

    private static void refer() {
        Scene s = new Scene();
        s.state("add", 1);
        Check.due(11, "target", s.x.refer(0, 0, 5), 0);
        Check.due(11, "target again", s.x.refer(0, 0, 2), 5);
        Check.due(11, "left", s.x.refer(0, 1, 3), -1);
        Check.due(11, "left, a constant again", s.x.refer(0, 1, -1), 3);
        Check.due(11, "right", s.x.refer(0, 2, 0), -1);
        Check.due(11, "the same", s.x.refer(0, 2, 0), 0);
        int told = s.x.count(2);
        Check.due(11, "target no constant", s.x.refer(0, 0, -1), -2);
        int[][] bad = {{1, 0, 0}, {-1, 0, 0}, {0, -1, 0}, {0, 3, 0}, {0, 0, 6}, {0, 1, -2}, {0, 2, 6}, {MIN, 0, 0},
            {0, MAX, 0}, {0, 1, MIN}};
        for (int[] b : bad) {
            Check.due(11, "refer(" + b[0] + ", " + b[1] + ", " + b[2] + ")", s.x.refer(b[0], b[1], b[2]), -2);
        }
        Check.due(11, "refused ones are not told", s.x.count(2), told);
        Check.due(11, "target", s.x.reference(0, 0, 0), 2);
        Check.due(11, "left", s.x.reference(0, 1, 0), -1);
        Check.due(11, "right", s.x.reference(0, 2, 0), 0);
        s.x.place(0, 2, 4, 5, 6);
        s.x.refer(0, 2, 1);
        Check.due(11, "from stays", s.x.reference(0, 2, 1), 4);
        s.state("copy", 1);
        Check.due(11, "right of a copy", s.x.refer(1, 2, 3), -1);
    }

    private static void place() {
        Scene s = new Scene();
        s.state("add", 1);
        Check.due(12, "greatest", s.x.place(0, 0, 60, 6, 6), 1);
        Check.due(12, "least", s.x.place(0, 1, -60, -6, -6), 1);
        int[][] bad = {{1, 0, 0, 0, 0}, {-1, 0, 0, 0, 0}, {0, -1, 0, 0, 0}, {0, 3, 0, 0, 0}, {0, 0, 61, 0, 0},
            {0, 0, -61, 0, 0}, {0, 0, 0, 7, 0}, {0, 0, 0, -7, 0}, {0, 0, 0, 0, 7}, {0, 0, 0, 0, -7},
            {0, 0, MIN, 0, 0}, {0, 0, 0, MAX, 0}, {0, 0, 0, 0, MIN}};
        for (int[] b : bad) {
            Check.due(12, "a bad place", s.x.place(b[0], b[1], b[2], b[3], b[4]), -2);
        }
        int[][] due = {{0, 60, 6, 6}, {-1, -60, -6, -6}, {-1, 0, 0, 0}};
        for (int which = 0; which < 3; which++) {
            for (int what = 0; what < 4; what++) {
                Check.due(12, "reference(0, " + which + ", " + what + ")", s.x.reference(0, which, what), due[which][what]);
            }
        }
        Check.due(12, "told", s.x.count(2), 3);
    }

    private static void guard() {
        Scene s = new Scene().turns(10);
        s.state("add", 1);
        for (int period = 1; period <= 6; period++) {
            for (int phase = 0; phase < period; phase++) {
                Check.due(13, "guard(0, " + period + ", " + phase + ")", s.x.guard(0, period, phase), 1);
                Check.due(13, "period", s.x.info(0, 2), period);
                Check.due(13, "phase", s.x.info(0, 3), phase);
                Check.due(13, "turns", s.x.info(0, 6), (10 - phase + period - 1) / period);
            }
        }
        int[][] bad = {{0, 0, 0}, {0, 7, 0}, {0, 3, 3}, {0, 3, -1}, {1, 1, 0}, {-1, 1, 0}, {0, -1, 0}, {0, MIN, 0},
            {0, 3, MAX}, {0, 1, 1}};
        for (int[] b : bad) {
            Check.due(13, "guard(" + b[0] + ", " + b[1] + ", " + b[2] + ")", s.x.guard(b[0], b[1], b[2]), -2);
        }
        Check.due(13, "period stays", s.x.info(0, 2), 6);
        Check.due(13, "phase stays", s.x.info(0, 3), 5);
    }

    private static void mask() {
        Scene s = new Scene().row(3, 4, 4, 1, 0, 1, 1).row(2, 1, 4, 1, 1, 1, 1).turns(6);
        s.state("add", 1);
        Check.due(14, "mask(0, 3)", s.x.mask(0, 3), -1);
        Check.due(14, "turns with a true cell", s.x.info(0, 6), 3);
        s.x.guard(0, 2, 0);
        Check.due(14, "and by the period", s.x.info(0, 6), 2);
        s.x.guard(0, 1, 0);
        Check.due(14, "mask(0, 2)", s.x.mask(0, 2), 3);
        Check.due(14, "a mask of ints", s.x.info(0, 6), 0);
        Check.due(14, "mask(0, 5)", s.x.mask(0, 5), 2);
        Check.due(14, "a missing mask", s.x.info(0, 6), 0);
        Check.due(14, "mask(0, -1)", s.x.mask(0, -1), 5);
        Check.due(14, "no mask", s.x.info(0, 6), 6);
        int told = s.x.count(2);
        int[][] bad = {{1, 0}, {-1, 0}, {0, -2}, {0, 6}, {MIN, 0}, {0, MAX}};
        for (int[] b : bad) {
            Check.due(14, "mask(" + b[0] + ", " + b[1] + ")", s.x.mask(b[0], b[1]), -2);
        }
        Check.due(14, "refused ones are not told", s.x.count(2), told);
        Check.due(14, "no mask still", s.x.info(0, 4), -1);
    }

    private static void undoEach() {
        Scene s = new Scene();
        s.turns(3).turns(7);
        s.state("max", 2);
        s.x.refer(0, 1, 4);
        s.x.place(0, 1, 9, -2, 3);
        s.x.place(0, 1, 8, 1, 1);
        s.x.guard(0, 3, 2);
        s.x.guard(0, 5, 1);
        s.x.mask(0, 2);
        s.x.mask(0, 1);
        Check.due(15, "count(2)", s.x.count(2), 10);
        Check.due(15, "mask()", s.x.undo(), 5);
        Check.due(15, "the mask", s.x.info(0, 4), 2);
        s.x.undo();
        Check.due(15, "no mask", s.x.info(0, 4), -1);
        Check.due(15, "guard()", s.x.undo(), 4);
        Check.due(15, "the period", s.x.info(0, 2), 3);
        Check.due(15, "the phase", s.x.info(0, 3), 2);
        s.x.undo();
        Check.due(15, "the period", s.x.info(0, 2), 1);
        Check.due(15, "place()", s.x.undo(), 3);
        Check.due(15, "from", s.x.reference(0, 1, 1), 9);
        Check.due(15, "by", s.x.reference(0, 1, 2), -2);
        Check.due(15, "step", s.x.reference(0, 1, 3), 3);
        Check.due(15, "place()", s.x.undo(), 3);
        Check.due(15, "from", s.x.reference(0, 1, 1), 0);
        Check.due(15, "refer()", s.x.undo(), 2);
        Check.due(15, "a constant", s.x.reference(0, 1, 0), -1);
        s.type("ad");
        Check.due(15, "statement()", s.x.undo(), 1);
        Check.due(15, "it is gone", s.x.count(1), 0);
        Check.due(15, "the text stays", s.x.count(3), 2);
        Check.due(15, "turns()", s.x.undo(), 0);
        Check.due(15, "count(0)", s.x.count(0), 3);
        Check.due(15, "turns()", s.x.undo(), 0);
        Check.due(15, "count(0)", s.x.count(0), 0);
        Check.due(15, "no more", s.x.undo(), -3);
        Check.due(15, "not a finding", s.x.count(8), 0);
    }

    private static void undoDepth() {
        StrideTurns x = new StrideTurns();
        for (int n = 0; n < 27; n++) {
            x.turns(n % 10);
        }
        Check.due(15, "the latest 20", x.count(2), 20);
        for (int n = 25; n >= 22; n--) {
            x.undo();
            Check.due(15, "count(0)", x.count(0), n % 10);
        }
        Check.due(15, "16 are left", x.count(2), 16);
        for (int n = 0; n < 6; n++) {
            x.turns(n);
        }
        Check.due(15, "20 again", x.count(2), 20);
        for (int n = 0; n < 20; n++) {
            Check.due(15, "undo()", x.undo(), 0);
        }
        Check.due(15, "what was told 20 ago", x.count(0), 8);
        Check.due(15, "no more", x.undo(), -3);
    }

    private static void undoStatements() {
        Scene s = new Scene().row(0, 1, 3).turns(2);
        s.tell("mul", 3, Scene.at(0, 1, 1, 0), Scene.at(0, 0, 0, 0), Scene.constant(7));
        s.state("add", 1);
        s.x.guard(1, 2, 1);
        s.x.undo();
        s.x.undo();
        Check.due(15, "info() of what is gone", s.x.info(1, 0), -2);
        s.state("sub", 2);
        Check.due(15, "a new one is new", s.x.info(1, 2), 1);
        Check.due(15, "a new one's operation", s.x.info(1, 0), 1);
        Check.due(15, "the first one stays", s.x.reference(0, 2, 1), 7);
        Check.due(15, "cells written by both", s.x.many(1, 0, -1), 3);
        s.x.undo();
        Check.due(15, "sets are known anew", s.x.many(1, 0, -1), 2);
        s.x.undo();
        Check.due(15, "undone once more", s.x.reference(0, 2, 1), 0);
    }

    private static void info() {
        Scene s = new Scene().row(0, 1, 9).turns(7);
        s.state("and", 4);
        s.refer(0, Scene.LEFT, 0, 0, 0, 0);
        s.x.guard(0, 3, 1);
        int[] due = {6, 4, 3, 1, -1, 5, 2};
        for (int what = 0; what < due.length; what++) {
            Check.due(16, "info(0, " + what + ")", s.x.info(0, what), due[what]);
        }
        int[][] bad = {{1, 0}, {-1, 0}, {0, -1}, {0, 7}, {MAX, 0}, {0, MIN}};
        for (int[] b : bad) {
            Check.due(16, "info(" + b[0] + ", " + b[1] + ")", s.x.info(b[0], b[1]), -2);
        }
    }

    private static void family() {
        String[] names = {"add", "sub", "mul", "rem", "max", "min", "and", "or", "xor", "copy", "pick", "sure", "times"};
        int[] ofInts = {1, 1, 2, 0, 3, 4, 5, 6, 7, 0, 0, 0, 0};
        for (int operation = 0; operation < names.length; operation++) {
            int[] ofFloats = {operation == 4 ? 3 : operation == 5 ? 4 : 0};
            for (int form = 0; form < 4; form++) {
                Scene s = new Scene().row(1, form, 5);
                s.tell(names[operation], 1, Scene.at(1, 2, 1, 1), Scene.at(1, 2, 1, 1), Scene.constant(60));
                int due = form < 2 ? ofInts[operation] : ofFloats[0];
                Check.due(16, "family of " + names[operation] + " for form " + form, s.x.info(0, 5), due);
            }
        }
        Scene s = new Scene().row(0, 1, 5).row(1, 1, 5).row(2, 4, 5);
        s.tell("add", 1, Scene.at(0, 2, 1, 1), Scene.at(0, 2, 1, 1), Scene.at(1, 0, 0, 0));
        Check.due(16, "by another row", s.x.info(0, 5), 1);
        familyUnlike(s, Scene.at(0, 3, 1, 1));
        familyUnlike(s, Scene.at(0, 2, 2, 1));
        familyUnlike(s, Scene.at(0, 2, 1, 2));
        familyUnlike(s, Scene.at(1, 2, 1, 1));
        familyUnlike(s, Scene.constant(2));
        s.refer(0, Scene.LEFT, 0, 2, 1, 1);
        s.x.refer(0, Scene.RIGHT, 0);
        Check.due(16, "right to the same row", s.x.info(0, 5), 0);
        s.x.refer(0, Scene.RIGHT, 2);
        Check.due(16, "right to truths", s.x.info(0, 5), 0);
        s.x.refer(0, Scene.RIGHT, 5);
        Check.due(16, "right to a missing row", s.x.info(0, 5), 0);
        s.x.refer(0, Scene.RIGHT, 1);
        Check.due(16, "as at first", s.x.info(0, 5), 1);
        s.x.row(0, 4, 5);
        Check.due(16, "of truths", s.x.info(0, 5), 0);
        s.x.lose(0);
        Check.due(16, "of a missing row", s.x.info(0, 5), 0);
    }

    private static void familyUnlike(Scene s, int[] left) {
        s.refer(0, Scene.LEFT, left);
        Check.due(16, "left unlike the target", s.x.info(0, 5), 0);
        s.refer(0, Scene.LEFT, 0, 2, 1, 1);
    }

    private static void familyOfForms() {
        // by form of the row, then of right
        int[][] ofAdd = {{1, 1, 0, 0}, {1, 1, 0, 0}, {0, 0, 0, 0}, {0, 0, 0, 0}};
        int[][] ofMax = {{3, 0, 0, 0}, {3, 3, 0, 0}, {3, 3, 3, 0}, {3, 3, 3, 3}};
        for (int form = 0; form < 4; form++) {
            for (int right = 0; right < 4; right++) {
                Scene s = new Scene().row(0, form, 5).row(1, right, 5);
                s.tell("add", 1, Scene.at(0, 0, 0, 0), Scene.at(0, 0, 0, 0), Scene.at(1, 0, 0, 0));
                s.tell("max", 1, Scene.at(0, 0, 0, 0), Scene.at(0, 0, 0, 0), Scene.at(1, 0, 0, 0));
                s.tell("min", 1, Scene.at(0, 0, 0, 0), Scene.at(0, 0, 0, 0), Scene.at(1, 0, 0, 0));
                String forms = " of form " + form + " by form " + right;
                Check.due(16, "add" + forms, s.x.info(0, 5), ofAdd[form][right]);
                Check.due(16, "max" + forms, s.x.info(1, 5), ofMax[form][right]);
                Check.due(16, "min" + forms, s.x.info(2, 5), ofMax[form][right] == 0 ? 0 : 4);
            }
        }
    }

    private static void reference() {
        Scene s = new Scene();
        s.state("add", 1);
        s.refer(0, Scene.RIGHT, 3, -2, -3, 4);
        int[] due = {3, -2, -3, 4};
        for (int what = 0; what < 4; what++) {
            Check.due(17, "reference(0, 2, " + what + ")", s.x.reference(0, 2, what), due[what]);
        }
        Check.due(17, "to no row", s.x.reference(0, 1, 0), -1);
        int[][] bad = {{1, 0, 0}, {-1, 0, 0}, {0, -1, 0}, {0, 3, 0}, {0, 0, -1}, {0, 0, 4}, {MIN, 0, 0}, {0, MAX, 0}, {0, 0, MAX}};
        for (int[] b : bad) {
            Check.due(17, "reference(" + b[0] + ", " + b[1] + ", " + b[2] + ")", s.x.reference(b[0], b[1], b[2]), MIN);
        }
    }
}
