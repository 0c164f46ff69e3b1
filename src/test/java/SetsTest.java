/** Promises 22 to 28: sets, verdicts, witnesses. */
public final class SetsTest {
    private static final int MIN = Integer.MIN_VALUE, MAX = Integer.MAX_VALUE;
    private static final int READ = 0, WRITTEN = 1, SURE = 2, EXPOSED = 3;

    public static void main(String[] args) {
        readAndWritten();
        endedAhead();
        sure();
        sureBehindSure();
        exposed();
        ofTruths();
        setsFollowChanges();
        setsFollowTurnsAndMasks();
        setRefused();
        pieces();
        piecesInOrder();
        readOnly();
        shared();
        gathered();
        gatheredByAll();
        copiedOrSerial();
        would();
        wouldRefused();
        witness();
        witnessesAmongOthers();
        last();
        Check.end();
    }

    private static void cells(int promise, Scene s, int set, int r, int i, int... due) {
        String call = "of set " + set + " of row " + r + " in turn " + i;
        Check.due(promise, "many " + call, s.x.many(set, r, i), due.length);
        int found = 0;
        for (int p = 0; p < s.x.pieces(set, r, i); p++) {
            int first = s.x.piece(set, r, i, p, 0);
            int stride = s.x.piece(set, r, i, p, 1);
            for (int n = 0; n < s.x.piece(set, r, i, p, 2); n++) {
                boolean is = false;
                for (int d : due) {
                    is |= d == first + n * stride;
                }
                Check.holds("cell " + (first + n * stride) + " " + call, is);
                found++;
            }
        }
        Check.due(promise, "cells in pieces " + call, found, due.length);
    }

    private static void readAndWritten() {
        Scene s = new Scene().row(0, 1, 20).row(1, 2, 20).turns(3);
        s.tell("add", 2, Scene.at(0, 0, 2, 1), Scene.at(0, 10, 1, 0), Scene.at(1, 5, 0, 2));
        s.tell("copy", 1, Scene.at(0, 0, 2, 0), Scene.at(1, 1, 1, 0), Scene.at(1, 19, 0, 0));
        cells(22, s, READ, 0, 0, 10);
        cells(22, s, READ, 0, 2, 12);
        cells(22, s, READ, 0, -1, 10, 11, 12);
        cells(22, s, READ, 1, 0, 1, 5, 7);
        cells(22, s, READ, 1, -1, 1, 2, 3, 5, 7);
        cells(22, s, WRITTEN, 0, 1, 2, 3);
        cells(22, s, WRITTEN, 0, -1, 0, 1, 2, 3, 4, 5);
        cells(22, s, WRITTEN, 1, -1);
        cells(22, s, SURE, 0, 2, 4, 5);
        s.x.guard(0, 2, 1);
        cells(22, s, WRITTEN, 0, 0, 0);
        cells(22, s, WRITTEN, 0, 1, 2, 3);
        cells(22, s, READ, 1, 2, 3);
        s.turns(0);
        cells(22, s, WRITTEN, 0, -1);
        Check.due(22, "many() of no such turn", s.x.many(WRITTEN, 0, 0), -2);
    }

    private static void endedAhead() {
        Scene s = new Scene().row(0, 1, 4).row(1, 1, 24).row(2, 1, 2).turns(1);
        // item 2 has no right; items 0 and 1 are whole
        s.tell("add", 4, Scene.at(0, 0, 0, 1), Scene.at(1, 5, 0, 1), Scene.at(2, 0, 0, 1));
        s.tell("add", 1, Scene.at(1, 20, 0, 0), Scene.at(1, 21, 0, 0), Scene.constant(0));
        cells(22, s, READ, 1, 0, 5, 6, 7);
        cells(22, s, EXPOSED, 1, 0, 5, 6, 7);
        cells(22, s, READ, 2, 0, 0, 1);
        cells(22, s, WRITTEN, 0, 0, 0, 1);
        cells(22, s, WRITTEN, 1, 0);
        s.x.place(0, Scene.LEFT, 22, 0, 1);    // now left is the one that item 2 has not
        cells(22, s, READ, 1, 0, 22, 23);
        cells(22, s, READ, 2, 0, 0, 1);
        s.x.place(0, Scene.LEFT, 0, 0, 0);
        s.x.place(0, Scene.RIGHT, 0, 0, 0);
        s.x.place(0, Scene.TARGET, 3, 0, 1);   // now the target of item 1
        cells(22, s, WRITTEN, 0, 0, 3);
        cells(22, s, READ, 2, 0, 0);
        s.x.place(0, Scene.TARGET, 0, 0, -1);
        cells(22, s, WRITTEN, 0, 0, 0);
        s.x.refer(0, Scene.TARGET, 4);         // missing: what is read ahead of it is read
        cells(22, s, READ, 1, 0, 0);
        cells(22, s, READ, 2, 0, 0);
        cells(22, s, WRITTEN, 4, 0);
        s.x.refer(0, Scene.RIGHT, 4);
        cells(22, s, READ, 1, 0, 0);
        cells(22, s, READ, 2, 0);
        s.x.refer(0, Scene.LEFT, 4);
        cells(22, s, READ, 1, 0);
    }

    private static void sure() {
        Scene s = new Scene().row(0, 1, 9).row(1, 1, 9).turns(1);
        s.tell("pick", 1, Scene.at(0, 0, 0, 0), Scene.constant(1), Scene.constant(2));
        s.tell("rem", 2, Scene.at(0, 1, 0, 1), Scene.constant(1), Scene.constant(0));
        cells(22, s, WRITTEN, 0, 0, 0, 1, 2);
        cells(22, s, SURE, 0, 0, 1, 2);
        s.tell("copy", 1, Scene.at(0, 0, 0, 0), Scene.constant(1), Scene.constant(2));
        cells(22, s, SURE, 0, 0, 0, 1, 2);
    }

    private static void sureBehindSure() {
        for (String name : new String[] {"sure", "times"}) {
            Scene s = new Scene().row(0, 1, 9).row(1, 1, 9).turns(2);
            s.tell("max", 1, Scene.at(0, 0, 0, 0), Scene.constant(1), Scene.constant(2));
            s.tell(name, 1, Scene.at(1, 1, 0, 0), Scene.constant(1), Scene.constant(2));
            s.tell("min", 1, Scene.at(0, 2, 0, 0), Scene.constant(1), Scene.constant(2));
            s.x.guard(1, 2, 1);
            cells(22, s, SURE, 0, 0, 0, 2);
            cells(22, s, SURE, 0, 1, 0);
            cells(22, s, WRITTEN, 0, 1, 0, 2);
            cells(22, s, SURE, 1, 1);
            cells(22, s, WRITTEN, 1, 1, 1);
            s.x.guard(1, 1, 0);
            s.x.place(1, Scene.TARGET, -1, 0, 0);
            cells(22, s, SURE, 0, 0, 0);
            cells(22, s, WRITTEN, 1, 0);
        }
    }

    private static void exposed() {
        Scene s = new Scene().row(0, 1, 12).row(1, 1, 12).turns(1);
        s.tell("add", 1, Scene.at(0, 3, 0, 0), Scene.at(0, 3, 0, 0), Scene.constant(1));
        cells(22, s, EXPOSED, 0, 0, 3);
        s.x.refer(0, Scene.LEFT, -1);
        s.tell("add", 1, Scene.at(1, 0, 0, 0), Scene.at(0, 3, 0, 0), Scene.at(0, 4, 0, 0));
        cells(22, s, READ, 0, 0, 3, 4);
        cells(22, s, EXPOSED, 0, 0, 4);
        s.x.undo();
        s.x.undo();
        s.x.undo();
        s.x.undo();
        s.x.undo();
        s.x.undo();
        s.x.undo();
        s.tell("pick", 1, Scene.at(0, 5, 0, 0), Scene.constant(2), Scene.constant(1));
        s.tell("sure", 1, Scene.at(0, 6, 0, 0), Scene.constant(2), Scene.constant(1));
        s.tell("add", 3, Scene.at(0, 5, 0, 1), Scene.at(0, 5, 0, 1), Scene.at(0, 4, 0, 1));
        // reads 5, 4, then 6, 5, then 7, 6: of these a pick had 5 ahead, a sure 6, item 0 then 5
        cells(22, s, READ, 0, 0, 4, 5, 6, 7);
        cells(22, s, EXPOSED, 0, 0, 4, 5, 7);
    }

    private static void ofTruths() {
        Scene s = new Scene().row(0, 4, 5).turns(2);
        s.tell("add", 1, Scene.at(0, 0, 0, 0), Scene.at(0, 1, 0, 0), Scene.at(0, 2, 0, 0));
        for (int set = 0; set < 4; set++) {
            cells(22, s, set, 0, -1);
            cells(22, s, set, 1, -1);
            cells(22, s, set, 0, 1);
        }
        Check.due(25, "verdict of truths", s.x.verdict(0), 0);
        Check.due(27, "witness of truths", s.x.witness(0, 0), -1);
        Check.due(28, "last of truths", s.x.last(1, 0, 0), -1);
    }

    private static void setsFollowChanges() {
        Scene s = new Scene().row(0, 1, 9).row(3, 4, 3, 1, 1, 1).turns(3);
        s.tell("add", 1, Scene.at(0, 0, 2, 0), Scene.constant(0), Scene.constant(0));
        s.x.mask(0, 3);
        cells(22, s, WRITTEN, 0, -1, 0, 2, 4);
        s.x.put(3, 4, 1, 0);
        cells(22, s, WRITTEN, 0, -1, 0, 4);
        s.x.copy(3, 1, 3, 0, 1);
        cells(22, s, WRITTEN, 0, -1, 4);
        s.x.undo();
        cells(22, s, WRITTEN, 0, -1, 0, 2, 4);
        s.x.row(0, 1, 4);
        cells(22, s, WRITTEN, 0, -1, 0, 2);
        s.x.guard(0, 2, 1);
        cells(22, s, WRITTEN, 0, -1, 2);
        s.x.turns(1);
        cells(22, s, WRITTEN, 0, -1);
        s.x.undo();
        s.x.undo();
        s.x.place(0, 0, 3, 0, 0);
        cells(22, s, WRITTEN, 0, -1, 3);
        s.x.refer(0, 0, 1);
        cells(22, s, WRITTEN, 0, -1);
        s.x.undo();
        s.x.lose(0);
        cells(22, s, WRITTEN, 0, -1);
        s.x.row(0, 2, 5);
        cells(22, s, WRITTEN, 0, 2, 3);
        s.state("add", 1);
        cells(22, s, WRITTEN, 0, 2, 0, 3);
    }

    private static void setsFollowTurnsAndMasks() {
        Scene s = new Scene().row(0, 1, 9).row(3, 4, 3, 1, 0, 1).turns(1);
        s.tell("add", 1, Scene.at(0, 0, 2, 0), Scene.constant(0), Scene.constant(0));
        cells(22, s, WRITTEN, 0, -1, 0);
        s.turns(3);
        cells(22, s, WRITTEN, 0, -1, 0, 2, 4);
        s.x.mask(0, 3);
        cells(22, s, WRITTEN, 0, -1, 0, 4);
        s.x.lose(3);
        cells(22, s, WRITTEN, 0, -1);
        s.x.mask(0, -1);
        cells(22, s, WRITTEN, 0, -1, 0, 2, 4);
        s.x.lose(0);
        cells(22, s, WRITTEN, 0, -1);
    }

    private static void setRefused() {
        Scene s = new Scene().row(0, 1, 9).turns(3);
        s.tell("add", 2, Scene.at(0, 0, 2, 1), Scene.constant(0), Scene.constant(0));
        int[][] bad = {{-1, 0, 0}, {4, 0, 0}, {0, -1, 0}, {0, 6, 0}, {0, 0, -2}, {0, 0, 3}, {MIN, 0, 0}, {0, MAX, 0},
            {0, 0, MIN}, {0, 0, MAX}, {1, 6, -1}};
        for (int[] b : bad) {
            String of = "(" + b[0] + ", " + b[1] + ", " + b[2] + ")";
            Check.due(22, "many" + of, s.x.many(b[0], b[1], b[2]), -2);
            Check.due(23, "pieces" + of, s.x.pieces(b[0], b[1], b[2]), -2);
            Check.due(24, "piece" + of, s.x.piece(b[0], b[1], b[2], 0, 0), -2);
        }
        int[][] badPieces = {{-1, 0}, {1, 0}, {0, -1}, {0, 3}, {MAX, 0}, {MIN, 0}, {0, MAX}, {23, 0}, {24, 0}};
        for (int[] b : badPieces) {
            Check.due(24, "piece " + b[0] + ", part " + b[1], s.x.piece(WRITTEN, 0, 0, b[0], b[1]), -2);
        }
        Check.due(24, "a good one", s.x.piece(WRITTEN, 0, 0, 0, 2), 2);
        Check.due(24, "of none", s.x.piece(READ, 0, 0, 0, 0), -2);
    }

    private static void piece(Scene s, int p, int first, int stride, int many) {
        int[] due = {first, stride, many};
        for (int part = 0; part < 3; part++) {
            Check.due(24, "piece " + p + ", part " + part, s.x.piece(WRITTEN, 0, -1, p, part), due[part]);
        }
    }

    /** A loop of one turn that writes given cells of row 0, two at most by a statement. */
    private static Scene writing(int... cells) {
        Scene s = new Scene().row(0, 1, 24).turns(1);
        for (int c = 0; c < cells.length; c += 2) {
            int step = c + 1 < cells.length ? cells[c + 1] - cells[c] : 0;
            s.tell("add", 2, Scene.at(0, cells[c], 0, step), Scene.constant(0), Scene.constant(0));
        }
        return s;
    }

    private static void pieces() {
        Scene s = writing(0, 1, 3, 6, 9, 12);
        Check.due(23, "0 1 3 6 9 12", s.x.pieces(WRITTEN, 0, -1), 2);
        piece(s, 0, 0, 1, 2);
        piece(s, 1, 3, 3, 4);
        s = writing(0, 3, 4, 6, 8, 9);
        Check.due(23, "0 3 4 6 8 9", s.x.pieces(WRITTEN, 0, -1), 2);
        piece(s, 0, 0, 3, 4);                  // 0 3 6 9
        piece(s, 1, 4, 4, 2);                  // 4 8
        s = writing(23);
        Check.due(23, "23", s.x.pieces(WRITTEN, 0, -1), 1);
        piece(s, 0, 23, 1, 1);
        s = writing(0, 5, 7);
        Check.due(23, "0 5 7", s.x.pieces(WRITTEN, 0, -1), 2);
        piece(s, 0, 0, 5, 2);
        piece(s, 1, 7, 1, 1);
        s = new Scene().row(0, 1, 24).turns(1);
        Check.due(23, "none", s.x.pieces(WRITTEN, 0, -1), 0);
        Check.due(24, "of none", s.x.piece(WRITTEN, 0, -1, 0, 0), -2);
        Check.due(24, "no such piece", writing(1, 2).x.piece(WRITTEN, 0, -1, 1, 0), -2);
    }

    private static void piecesInOrder() {
        Scene s = new Scene().row(0, 1, 24).turns(6);
        s.tell("add", 4, Scene.at(0, 23, 0, -6), Scene.constant(0), Scene.constant(0));
        s.tell("add", 4, Scene.at(0, 4, 1, 1), Scene.constant(0), Scene.constant(0));
        Check.due(22, "many", s.x.many(WRITTEN, 0, -1), 4 + 9 - 2);
        Check.due(23, "4 5 .. 12, 17, 23", s.x.pieces(WRITTEN, 0, -1), 2);
        piece(s, 0, 4, 1, 9);
        piece(s, 1, 17, 6, 2);
        Check.due(23, "in a turn: 4 5 6 7, 11, 17, 23, 5", s.x.pieces(WRITTEN, 0, 0), 2);
        Check.due(24, "all of a row", writingAll().x.piece(WRITTEN, 0, -1, 0, 2), 24);
    }

    private static Scene writingAll() {
        Scene s = new Scene().row(0, 1, 24).turns(6);
        s.tell("add", 4, Scene.at(0, 0, 4, 1), Scene.constant(0), Scene.constant(0));
        return s;
    }

    private static void verdict(Scene s, int r, int due) {
        Check.due(25, "verdict(" + r + ")", s.x.verdict(r), due);
    }

    private static void readOnly() {
        Scene s = new Scene().row(0, 1, 9).row(1, 1, 9).turns(3);
        verdict(s, 0, 0);
        verdict(s, 5, 0);
        s.tell("add", 1, Scene.at(0, 0, 1, 0), Scene.at(1, 0, 0, 0), Scene.at(1, 1, 1, 0));
        verdict(s, 1, 0);
        s.x.place(0, Scene.TARGET, 9, 0, 0);
        verdict(s, 0, 0);
        for (int r : new int[] {-1, 6, MIN, MAX}) {
            verdict(s, r, -2);
        }
    }

    private static void shared() {
        Scene s = new Scene().row(0, 1, 24).row(1, 1, 9).turns(4);
        s.tell("add", 2, Scene.at(0, 0, 2, 1), Scene.at(0, 1, 2, -1), Scene.at(0, 20, 0, 0));
        verdict(s, 0, 1);
        s.x.place(0, Scene.LEFT, 2, 2, 0);     // the cell that the next turn writes
        verdict(s, 0, 3);
        s.x.place(0, Scene.LEFT, 7, 0, 0);     // one that the last turn writes
        verdict(s, 0, 3);
        s.x.place(0, Scene.LEFT, 0, 0, 0);     // one that the first turn writes
        verdict(s, 0, 4);
        s.x.place(0, Scene.LEFT, 20, 0, 0);
        verdict(s, 0, 1);
        s.x.place(0, Scene.TARGET, 0, 1, 1);   // turns write the same cells
        verdict(s, 0, 3);
        s.turns(1);
        verdict(s, 0, 1);
    }

    private static void gathered() {
        Scene s = new Scene().row(0, 1, 9).row(1, 1, 9).turns(4);
        s.tell("add", 2, Scene.at(0, 0, 0, 1), Scene.at(0, 0, 0, 1), Scene.at(1, 0, 1, 0));
        verdict(s, 0, 2);
        s.tell("sub", 1, Scene.at(0, 0, 1, 0), Scene.at(0, 0, 1, 0), Scene.constant(4));
        verdict(s, 0, 2);
        s.x.place(1, Scene.LEFT, 0, 1, 1);     // the same cells, told another way
        verdict(s, 0, 4);
        s.x.undo();
        s.tell("xor", 1, Scene.at(0, 5, 0, 0), Scene.at(0, 5, 0, 0), Scene.constant(4));
        verdict(s, 0, 4);
        s.x.guard(2, 6, 5);                    // a statement that is never done is a statement still
        verdict(s, 0, 4);
        s.x.refer(2, Scene.TARGET, 2);
        s.x.refer(2, Scene.LEFT, 2);
        verdict(s, 0, 2);
        s.x.refer(2, Scene.RIGHT, 0);          // read by another statement
        verdict(s, 0, 4);
    }

    private static void gatheredByAll() {
        Scene s = new Scene().row(0, 1, 9).row(1, 1, 9).turns(4);
        s.tell("max", 1, Scene.at(0, 3, 0, 0), Scene.at(0, 3, 0, 0), Scene.at(1, 0, 1, 0));
        s.tell("copy", 1, Scene.at(1, 8, 0, 0), Scene.constant(4), Scene.at(0, 3, 0, 0));
        verdict(s, 0, 2);                      // right of a copy is not looked at
        s.x.place(1, Scene.TARGET, 8, 0, 0);
        s.x.refer(1, Scene.LEFT, 0);
        verdict(s, 0, 4);
        s.x.place(1, Scene.LEFT, 7, 0, 0);     // a cell that no turn writes, but of the row
        verdict(s, 0, 4);
        s.x.refer(1, Scene.LEFT, -1);
        verdict(s, 0, 2);
        s.row(1, 2, 9);
        verdict(s, 0, 4);
        s.row(0, 2, 9);
        verdict(s, 0, 2);
        s.row(1, 3, 9);
        verdict(s, 0, 4);
        s.row(0, 3, 9);
        verdict(s, 0, 2);
    }

    private static void copiedOrSerial() {
        Scene s = new Scene().row(0, 1, 9).row(1, 1, 9).row(2, 1, 12).turns(4);
        s.tell("add", 2, Scene.at(0, 0, 0, 1), Scene.at(2, 0, 1, 1), Scene.constant(1));
        s.tell("mul", 2, Scene.at(1, 0, 2, 1), Scene.at(0, 0, 0, 1), Scene.constant(3));
        verdict(s, 0, 3);
        Check.due(25, "parallel", s.x.count(4), 1);
        s.x.place(1, Scene.LEFT, 0, 0, 2);     // cells 0 and 2; only 0 and 1 are written
        verdict(s, 0, 3);
        s.x.place(0, Scene.TARGET, 1, 0, 1);   // now 1 and 2
        verdict(s, 0, 3);
        s.x.guard(0, 2, 0);                    // and not in each turn
        verdict(s, 0, 4);
        Check.due(25, "not parallel", s.x.count(4), 0);
        Check.due(25, "serial rows", s.x.count(5), 1);
        s.x.guard(0, 4, 3);                    // only in the last one
        verdict(s, 0, 3);
        s.x.guard(1, 4, 3);                    // and read only there
        verdict(s, 0, 1);
    }

    private static void would() {
        Scene s = new Scene().row(0, 1, 9).row(1, 1, 9).turns(4);
        s.tell("max", 1, Scene.at(0, 3, 0, 0), Scene.at(0, 3, 0, 0), Scene.at(1, 0, 1, 0));
        int[] due = {4, 2, 2, 2};
        for (int form = 0; form < 4; form++) {
            Check.due(26, "max by ints, form " + form, s.x.would(0, form), due[form]);
            Check.due(26, "row 1, form " + form, s.x.would(1, form), 0);
        }
        s.x.refer(0, Scene.RIGHT, -1);
        Check.due(26, "max by a constant", s.x.would(0, 0), 2);
        s.row(0, 3, 9);
        s.x.undo();
        Check.due(26, "from doubles to ints", s.x.would(0, 1), 2);
        Check.due(26, "nothing is changed", s.x.get(0, 0), 0);
        s.x.type(97);
        s.type("nd");
        s.x.statement(1);
        s.refer(1, Scene.TARGET, 1, 0, 0, 0);
        s.refer(1, Scene.LEFT, 1, 0, 0, 0);
        s.x.place(0, Scene.RIGHT, 5, 0, 0);
        verdict(s, 1, 4);
        s.x.refer(0, Scene.RIGHT, 2);
        s.row(2, 1, 9);
        Check.due(26, "and, as it is", s.x.would(1, 1), 2);
        Check.due(26, "and, of shorts", s.x.would(1, 0), 2);
        Check.due(26, "and, of floats", s.x.would(1, 2), 4);
        verdict(s, 1, 2);
    }

    private static void wouldRefused() {
        Scene s = new Scene().row(0, 4, 9).row(1, 1, 9);
        int[][] bad = {{-1, 0}, {6, 0}, {0, -1}, {0, 4}, {2, 4}, {MIN, 0}, {0, MAX}};
        for (int[] b : bad) {
            Check.due(26, "would(" + b[0] + ", " + b[1] + ")", s.x.would(b[0], b[1]), -2);
        }
        Check.due(26, "truths", s.x.would(0, 1), -3);
        Check.due(26, "not a finding", s.x.count(8), 0);
        Check.due(26, "missing", s.x.would(2, 1), Scene.NULL);
        Check.due(26, "finding", s.x.count(8), 1);
    }

    private static void witness(Scene s, int r, int... due) {
        for (int part = 0; part < 3; part++) {
            Check.due(27, "witness(" + r + ", " + part + ")", s.x.witness(r, part), due[part]);
        }
    }

    private static void witness() {
        Scene s = new Scene().row(0, 1, 24).row(1, 1, 9).turns(6);
        witness(s, 0, -1, -1, -1);
        // turn i writes i and i plus 1, and reads 4 and 3
        s.tell("add", 2, Scene.at(0, 0, 1, 1), Scene.at(0, 4, 0, -1), Scene.constant(0));
        witness(s, 0, 3, 4, 3);                // turn 3 writes 3 itself ahead; in turn 4 3 is the least of two
        s.x.place(0, Scene.LEFT, 3, 0, 1);
        witness(s, 0, 2, 3, 3);                // now turn 3 reads 3 first
        s.x.guard(0, 2, 0);                    // turns 0, 2, 4 alone
        witness(s, 0, 2, 4, 3);
        s.x.guard(0, 1, 0);
        s.x.place(0, Scene.TARGET, 3, 0, 0);
        s.x.place(0, Scene.LEFT, 3, 0, 0);
        s.x.guard(0, 5, 0);
        witness(s, 0, 0, 5, 3);
        s.tell("pick", 1, Scene.at(0, 3, 0, 0), Scene.constant(0), Scene.constant(0));
        witness(s, 0, 4, 5, 3);                // the last that has it written, by a pick, too
        int[][] bad = {{-1, 0}, {6, 0}, {0, -1}, {0, 3}, {MAX, 0}, {0, MIN}};
        for (int[] b : bad) {
            Check.due(27, "witness(" + b[0] + ", " + b[1] + ")", s.x.witness(b[0], b[1]), -2);
        }
    }

    private static void witnessesAmongOthers() {
        // turn 1 exposes 0, that no turn writes, 2, that it writes itself, and 5, that turn 0 may write
        Scene s = new Scene().row(3, 1, 24).row(4, 1, 24).turns(2);
        s.tell("add", 2, Scene.at(4, 0, 0, 0), Scene.at(3, 0, 2, 0), Scene.at(3, 0, 0, 0));
        s.tell("add", 1, Scene.at(3, 2, 0, 0), Scene.at(3, 5, 0, 0), Scene.constant(0));
        s.tell("pick", 1, Scene.at(3, 5, 0, 0), Scene.constant(1), Scene.constant(0));
        s.x.guard(0, 2, 1);
        s.x.guard(1, 2, 1);
        s.x.guard(2, 2, 0);
        witness(s, 3, 0, 1, 5);
        witness(s, 4, -1, -1, -1);
        s.row(0, 1, 24).x.refer(2, Scene.TARGET, 0);
        witness(s, 3, -1, -1, -1);
    }

    private static void last() {
        Scene s = new Scene().row(0, 1, 24).turns(7);
        s.tell("pick", 2, Scene.at(0, 0, 1, 1), Scene.constant(0), Scene.constant(0));
        s.tell("add", 1, Scene.at(0, 0, 2, 0), Scene.constant(0), Scene.constant(0));
        s.x.guard(1, 3, 1);
        Check.due(28, "written, cell 0", s.x.last(1, 0, 0), 0);
        Check.due(28, "written, cell 5", s.x.last(1, 0, 5), 5);
        Check.due(28, "written, cell 7", s.x.last(1, 0, 7), 6);
        Check.due(28, "written, cell 8", s.x.last(1, 0, 8), 4);
        Check.due(28, "written, cell 23", s.x.last(1, 0, 23), -1);
        Check.due(28, "sure, cell 8", s.x.last(2, 0, 8), 4);
        Check.due(28, "sure, cell 2", s.x.last(2, 0, 2), 1);
        Check.due(28, "sure, cell 5", s.x.last(2, 0, 5), -1);
        Check.due(28, "a missing row", s.x.last(1, 4, 0), -1);
        int[][] bad = {{0, 0, 0}, {3, 0, 0}, {1, -1, 0}, {1, 6, 0}, {1, 0, -1}, {1, 0, 24}, {MIN, 0, 0}, {1, MAX, 0}, {2, 0, MAX}};
        for (int[] b : bad) {
            Check.due(28, "last(" + b[0] + ", " + b[1] + ", " + b[2] + ")", s.x.last(b[0], b[1], b[2]), -2);
        }
    }
}
