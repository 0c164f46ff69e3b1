/** The edges that the document names of verdicts, a method a sentence: what gathers, promises 25 to 27. */
public final class EdgesVerdictsTest {
    private static final int READ_ONLY = 0, SHARED = 1, GATHERED = 2, COPIED = 3, SERIAL = 4;
    private static final int NONE = StrideTurns.NONE, BAD = StrideTurns.BAD, TURNS = 10;
    private static final String[] NAMES = {
        "add", "sub", "mul", "rem", "max", "min", "and", "or", "xor", "copy", "pick", "sure", "times"};
    private static final int[] OF_INTS = {1, 1, 2, 0, 3, 4, 5, 6, 7, 0, 0, 0, 0};
    private static final int[] OF_REALS = {0, 0, 0, 0, 3, 4, 0, 0, 0, 0, 0, 0, 0};

    public static void main(String[] args) {
        targetAndLeftAlike();
        rightElsewhere();
        wholeNumbersGather();
        intsForShorts();
        realsGather();
        doublesForFloats();
        doesNotGather();
        readOnly();
        readOnlyThoughTold();
        shared();
        sharedInATurn();
        sharedByAll();
        gatheredByOneFamily();
        gatheredByAllStatements();
        gatheredLookedAt();
        gatheredAheadOfCopied();
        sharedAheadOfGathered();
        copiedOrSerial();
        copiedByWhatIsExposed();
        serial();
        parallel();
        verdictRefused();
        wouldAsItIs();
        wouldAsItWere();
        wouldOfAForm();
        wouldRefused();
        noWitness();
        witnessOfEachRow();
        leastTurn();
        leastCell();
        lastOfEarlierTurns();
        witnessRefused();
        Check.end();
    }

    /** Row 0 is the target's and left's, at the same places; right is to row 1. */
    private static Scene gathering(String name, int form, int rightForm) {
        Scene s = new Scene().row(0, form, 9).row(1, rightForm, 24).turns(TURNS);
        s.tell(name, 1, Scene.at(0, 3, 0, 0), Scene.at(0, 3, 0, 0), Scene.at(1, 0, 1, 0));
        return s;
    }

    private static void targetAndLeftAlike() {
        Check.sentence("A STATEMENT GATHERS by a FAMILY: TARGET and LEFT are to one ROW, with FROM, BY, STEP alike");
        int[][] lefts = {{0, 3, 2, 1}, {0, 4, 2, 1}, {0, 2, 2, 1}, {0, 3, 3, 1}, {0, 3, 1, 1}, {0, 3, 2, 2}, {0, 3, 2, 0}, {1, 3, 2, 1},
            {NONE, 3, 2, 1}, {2, 3, 2, 1}};
        for (int n = 0; n < lefts.length; n++) {
            Scene s = new Scene().row(0, 1, 9).row(1, 1, 9).turns(1);
            s.tell("add", 1, Scene.at(0, 3, 2, 1), lefts[n], Scene.constant(2));
            Check.due("left " + n, s.x.info(0, 5), n == 0 ? 1 : 0);
        }
    }

    private static void rightElsewhere() {
        Check.sentence("RIGHT is a CONSTANT, or to another ROW that is of numbers");
        Scene s = new Scene().row(0, 1, 9).turns(1);
        s.tell("xor", 1, Scene.at(0, 0, 0, 0), Scene.at(0, 0, 0, 0), new int[] {NONE, 60, 6, 6});
        Check.due("a constant", s.x.info(0, 5), 7);
        s.x.refer(0, Scene.RIGHT, 0);
        Check.due("to the row itself", s.x.info(0, 5), 0);
        s.x.place(0, Scene.RIGHT, 5, 0, 0);
        Check.due("to another cell of it", s.x.info(0, 5), 0);
        s.x.refer(0, Scene.RIGHT, 1);
        Check.due("to a missing row", s.x.info(0, 5), 0);
        s.row(1, 4, 9);
        Check.due("to a row of truths", s.x.info(0, 5), 0);
        s.row(1, 0, 0);
        Check.due("to a row of numbers without cells", s.x.info(0, 5), 7);
    }

    private static void wholeNumbersGather() {
        Check.sentence("if the ROW is of shorts or ints, and RIGHT is not floats or doubles: 1 add, sub; 2 mul; 5 and; 6 or; 7 xor; 3 max, 4 min");
        for (int operation = 0; operation < NAMES.length; operation++) {
            for (int form = 0; form < 2; form++) {
                for (int right = 0; right < 4; right++) {
                    boolean wide = right > 1 || form == 0 && right == 1 && (operation == 4 || operation == 5);
                    Check.due(NAMES[operation] + " of form " + form + " by " + right,
                            gathering(NAMES[operation], form, right).x.info(0, 5), wide ? 0 : OF_INTS[operation]);
                }
            }
        }
    }

    private static void intsForShorts() {
        Check.sentence("but not with a ROW of ints for shorts (a CONSTANT may be)");
        for (String name : new String[] {"max", "min"}) {
            int due = name.equals("max") ? 3 : 4;
            Scene s = gathering(name, 0, 1);
            Check.due(name + " of shorts by ints", s.x.info(0, 5), 0);
            Check.due("verdict(0)", s.x.verdict(0), SERIAL);
            s.x.refer(0, Scene.RIGHT, NONE);
            Check.due(name + " of shorts by a constant", s.x.info(0, 5), due);
            Check.due("verdict(0)", s.x.verdict(0), GATHERED);
            Check.due(name + " of shorts by shorts", gathering(name, 0, 0).x.info(0, 5), due);
            Check.due(name + " of ints by ints", gathering(name, 1, 1).x.info(0, 5), due);
            Check.due(name + " of ints by shorts", gathering(name, 1, 0).x.info(0, 5), due);
        }
        Check.due("add of shorts by ints", gathering("add", 0, 1).x.info(0, 5), 1);
    }

    private static void realsGather() {
        Check.sentence("if it is of floats or doubles");
        for (int operation = 0; operation < NAMES.length; operation++) {
            for (int form = 2; form < 4; form++) {
                for (int right = 0; right <= form; right++) {
                    Check.due(NAMES[operation] + " of form " + form + " by " + right,
                            gathering(NAMES[operation], form, right).x.info(0, 5), OF_REALS[operation]);
                }
                Scene s = gathering(NAMES[operation], form, 1);
                s.x.refer(0, Scene.RIGHT, NONE);
                Check.due(NAMES[operation] + " by a constant", s.x.info(0, 5), OF_REALS[operation]);
            }
        }
    }

    private static void doublesForFloats() {
        Check.sentence("and RIGHT not of doubles for floats: 3 max; 4 min");
        Check.due("max of floats by doubles", gathering("max", 2, 3).x.info(0, 5), 0);
        Check.due("min of floats by doubles", gathering("min", 2, 3).x.info(0, 5), 0);
        Check.due("its verdict", gathering("min", 2, 3).x.verdict(0), SERIAL);
        Check.due("max of floats by floats", gathering("max", 2, 2).x.verdict(0), GATHERED);
        Check.due("max of doubles by doubles", gathering("max", 3, 3).x.verdict(0), GATHERED);
        Check.due("max of doubles by floats", gathering("max", 3, 2).x.verdict(0), GATHERED);
    }

    private static void doesNotGather() {
        Check.sentence("Else 0: it does not.");
        for (String name : new String[] {"rem", "copy", "pick", "sure", "times"}) {
            for (int form = 0; form < 4; form++) {
                Check.due(name + " of form " + form, gathering(name, form, form).x.info(0, 5), 0);
            }
        }
        for (String name : NAMES) {
            Scene s = gathering(name, 4, 1);
            Check.due(name + " of truths", s.x.info(0, 5), 0);
            s.x.lose(0);
            Check.due(name + " of a missing row", s.x.info(0, 5), 0);
            Scene fresh = new Scene();
            fresh.state(name, 1);
            Check.due(name + " as it is at first", fresh.x.info(0, 5), 0);
        }
    }

    private static void readOnly() {
        Check.sentence("0 READ ONLY: no TURN has it WRITTEN");
        for (int r = 0; r < 6; r++) {
            Scene s = new Scene();
            Check.due("missing", s.x.verdict(r), READ_ONLY);
            s.row(r, 1, 9).row((r + 1) % 6, 1, 24).turns(TURNS);
            Check.due("with no statement", s.x.verdict(r), READ_ONLY);
            s.tell("add", 1, Scene.at((r + 1) % 6, 0, 1, 0), Scene.at(r, 0, 0, 0), Scene.at(r, 0, 1, -1));
            Check.due("read by all turns", s.x.verdict(r), READ_ONLY);
            s.tell("copy", 1, Scene.at(r, 0, 0, 0), Scene.constant(0), Scene.constant(0));
            s.turns(6);
            s.x.guard(1, 6, 5);
            Check.due("written in the last turn", s.x.verdict(r), COPIED);
            s.turns(5);
            Check.due("there is no such turn", s.x.verdict(r), READ_ONLY);
        }
    }

    private static void readOnlyThoughTold() {
        Check.sentence("no TURN has it WRITTEN");
        Scene s = new Scene().row(0, 1, 9).turns(TURNS);
        s.tell("copy", 5, Scene.at(0, 9, 0, 0), Scene.constant(0), Scene.constant(0));
        Check.due("a target outside", s.x.verdict(0), READ_ONLY);
        s.x.place(0, Scene.TARGET, 8, 0, 0);
        Check.due("inside", s.x.verdict(0), COPIED);
        s.x.mask(0, 5);
        Check.due("never done", s.x.verdict(0), READ_ONLY);
        s.x.mask(0, NONE);
        s.x.refer(0, Scene.LEFT, 4);
        Check.due("a fault ahead of it", s.x.verdict(0), READ_ONLY);
        s.row(4, 1, 1);
        Check.due("no fault", s.x.verdict(0), COPIED);
        s.row(0, 4, 9);
        Check.due("of truths", s.x.verdict(0), READ_ONLY);
        s.x.lose(0);
        Check.due("missing", s.x.verdict(0), READ_ONLY);
    }

    /** Turn "early" does the first of two statements, turn "late" the second: each to its cell of row 0. */
    private static Scene two(int early, int cell, boolean reads, int late, int otherCell) {
        Scene s = new Scene().row(0, 1, 9).row(1, 1, 9).row(4, 4, TURNS).row(5, 4, TURNS).turns(TURNS);
        s.x.put(4, 4, early, 1);
        s.x.put(5, 4, late, 1);
        s.tell("copy", 1, Scene.at(0, cell, 0, 0), Scene.constant(1), Scene.constant(0));
        if (reads) {
            s.tell("copy", 1, Scene.at(1, 0, 0, 0), Scene.at(0, otherCell, 0, 0), Scene.constant(0));
        } else {
            s.tell("copy", 1, Scene.at(0, otherCell, 0, 0), Scene.constant(2), Scene.constant(0));
        }
        s.x.mask(0, 4);
        s.x.mask(1, 5);
        return s;
    }

    private static void shared() {
        Check.sentence("1 SHARED: no CELL is WRITTEN in a TURN and READ or WRITTEN in another one");
        for (int early = 0; early < TURNS; early++) {
            for (int late = 0; late < TURNS; late++) {
                String turns = " in turns " + early + ", " + late;
                Check.due("written twice" + turns, two(early, 5, false, late, 5).x.verdict(0), early == late ? SHARED : COPIED);
                int due = early == late ? SHARED : early < late ? SERIAL : COPIED;
                Check.due("written, read" + turns, two(early, 5, true, late, 5).x.verdict(0), due);
                Check.due("a cell each" + turns, two(early, 5, false, late, 6).x.verdict(0), SHARED);
                Check.due("one read, one written" + turns, two(early, 5, true, late, 4).x.verdict(0), SHARED);
            }
        }
    }

    private static void sharedInATurn() {
        Check.sentence("in a TURN and READ or WRITTEN in another one");
        Scene s = new Scene().row(0, 1, 24).turns(TURNS);
        s.tell("add", 2, Scene.at(0, 0, 2, 1), Scene.at(0, 0, 2, 1), Scene.at(0, 1, 2, -1));
        Check.due("each turn its two cells", s.x.verdict(0), SHARED);
        s.x.place(0, Scene.RIGHT, 2, 2, 0);
        Check.due("and one of the next turn's", s.x.verdict(0), COPIED);
        s.x.place(0, Scene.RIGHT, 20, 0, 1);
        Check.due("and two that all turns read", s.x.verdict(0), SHARED);
        s.x.place(0, Scene.RIGHT, 18, 0, 0);
        Check.due("and one that the last turn writes", s.x.verdict(0), COPIED);
        s.x.place(0, Scene.RIGHT, 1, 0, 0);
        Check.due("and one that the first turn writes", s.x.verdict(0), SERIAL);
        s.turns(1);
        Check.due("of one turn all is shared", s.x.verdict(0), SHARED);
    }

    private static void sharedByAll() {
        Check.sentence("no CELL is WRITTEN in a TURN and READ or WRITTEN in another one");
        for (int cell : new int[] {0, 1, 22, 23}) {
            Scene s = new Scene().row(2, 1, 24).turns(2);
            s.tell("copy", 1, Scene.at(2, cell, 0, 0), Scene.constant(0), Scene.constant(0));
            Check.due("cell " + cell + " written in both", s.x.verdict(2), COPIED);
            s.x.guard(0, 2, 1);
            Check.due("in one", s.x.verdict(2), SHARED);
        }
    }

    private static void gatheredByOneFamily() {
        Check.sentence("2 GATHERED: all STATEMENTS with REFERENCES to it that are looked at GATHER by one FAMILY");
        for (int a = 0; a < 9; a++) {
            for (int b = 0; b < 9; b++) {
                Scene s = new Scene().row(0, 1, 9).turns(2);
                s.tell(NAMES[a], 1, Scene.at(0, 0, 0, 0), Scene.at(0, 0, 0, 0), Scene.constant(3));
                s.tell(NAMES[b], 1, Scene.at(0, 0, 0, 0), Scene.at(0, 0, 0, 0), Scene.constant(4));
                boolean one = OF_INTS[a] != 0 && OF_INTS[a] == OF_INTS[b];
                Check.due(NAMES[a] + " and " + NAMES[b], s.x.verdict(0), one ? GATHERED : SERIAL);
            }
        }
    }

    private static void gatheredByAllStatements() {
        Check.sentence("GATHER by one FAMILY, TARGET and LEFT to it");
        Scene s = gathering("add", 1, 1);
        Check.due("one statement", s.x.verdict(0), GATHERED);
        Check.due("right's row", s.x.verdict(1), READ_ONLY);
        s.tell("add", 1, Scene.at(2, 0, 0, 0), Scene.at(2, 0, 0, 0), Scene.at(0, 3, 0, 0));
        Check.due("with one that gathers elsewhere, but reads it", s.x.verdict(0), SERIAL);
        s.x.refer(1, Scene.RIGHT, NONE);
        Check.due("with one that gathers elsewhere", s.x.verdict(0), GATHERED);
        s.x.refer(1, Scene.LEFT, 0);
        Check.due("with one that reads it as left", s.x.verdict(0), SERIAL);
        s.x.refer(1, Scene.LEFT, NONE);
        s.x.refer(1, Scene.TARGET, 0);
        Check.due("with one that writes it", s.x.verdict(0), SERIAL);
        s.x.refer(1, Scene.TARGET, 1);
        Check.due("with one that is to right's row", s.x.verdict(0), GATHERED);
        Check.due("which is written now, and read by later turns", s.x.verdict(1), COPIED);
    }

    private static void gatheredLookedAt() {
        Check.sentence("all STATEMENTS with REFERENCES to it that are looked at GATHER");
        Scene s = gathering("add", 1, 1);
        s.tell("copy", 1, Scene.at(1, 20, 0, 0), Scene.constant(0), Scene.at(0, 3, 0, 0));
        Check.due("right of a copy is not looked at", s.x.verdict(0), GATHERED);
        s.x.refer(1, Scene.LEFT, 0);
        Check.due("left of a copy is", s.x.verdict(0), SERIAL);
        s.x.undo();
        s.tell("pick", 1, Scene.at(1, 20, 0, 0), Scene.constant(0), Scene.at(0, 3, 0, 0));
        Check.due("right of a pick is", s.x.verdict(0), SERIAL);
        // asked of all statements, of one that no turn does, too: the words ask nothing else
        s.x.mask(2, 5);
        Check.due("never done", s.x.verdict(0), SERIAL);
        s.x.refer(2, Scene.RIGHT, NONE);
        Check.due("not to it", s.x.verdict(0), GATHERED);
    }

    private static void gatheredAheadOfCopied() {
        Check.sentence("VERDICT of a ROW, the first that fits");
        // turn 0 reads the cell and ends outside, turn 1 writes it: no later turn has it exposed
        Scene s = new Scene().row(0, 1, 9).row(1, 1, 9).turns(2);
        s.tell("add", 1, Scene.at(0, 3, 0, 0), Scene.at(0, 3, 0, 0), Scene.at(1, -1, 1, 0));
        Check.due("it gathers", s.x.verdict(0), GATHERED);
        Check.due("and might be copied", s.x.witness(0, 0), NONE);
        s.x.place(0, Scene.RIGHT, 0, 1, 0);
        Check.due("it gathers", s.x.verdict(0), GATHERED);
        Check.due("and might be serial", s.x.witness(0, 0), 0);
    }

    private static void sharedAheadOfGathered() {
        Check.sentence("the first that fits: 0 READ ONLY");
        Scene s = new Scene().row(0, 1, 24).turns(TURNS);
        s.tell("add", 2, Scene.at(0, 0, 2, 1), Scene.at(0, 0, 2, 1), Scene.constant(1));
        Check.due("it gathers, but is shared", s.x.verdict(0), SHARED);
        s.x.mask(0, 5);
        Check.due("it gathers, but is never written", s.x.verdict(0), READ_ONLY);
        s.x.mask(0, NONE);
        for (int which = 0; which < 2; which++) {
            s.x.place(0, which, 0, 1, 1);
        }
        Check.due("two turns write each cell", s.x.verdict(0), GATHERED);
        s.x.place(0, Scene.LEFT, 0, 0, 0);
        Check.due("it does not gather", s.x.verdict(0), SERIAL);
    }

    private static void copiedOrSerial() {
        Check.sentence("3 COPIED: no CELL is WRITTEN in a TURN and EXPOSED in a later one; 4 SERIAL");
        for (int early = 0; early < TURNS; early++) {
            for (int late = 0; late < TURNS; late++) {
                // all turns write another cell, so that the row is not shared
                Scene s = two(early, 5, true, late, 5);
                s.tell("copy", 1, Scene.at(0, 8, 0, 0), Scene.constant(2), Scene.constant(0));
                String what = "written in turn " + early + ", exposed in turn " + late;
                Check.due(what, s.x.verdict(0), early < late ? SERIAL : COPIED);
                Check.due("parallel", s.x.count(4), early < late ? 0 : 1);
            }
        }
    }

    private static void copiedByWhatIsExposed() {
        Check.sentence("and EXPOSED in a later one");
        for (String name : new String[] {"copy", "pick", "sure", "times"}) {
            Scene s = new Scene().row(0, 1, 9).row(1, 1, 24).turns(TURNS);
            s.tell(name, 1, Scene.at(0, 0, 0, 0), Scene.constant(1), Scene.constant(0));
            s.tell("copy", 1, Scene.at(1, 0, 1, 0), Scene.at(0, 0, 0, 0), Scene.constant(0));
            Check.due("read behind " + name, s.x.verdict(0), name.equals("pick") ? SERIAL : COPIED);
            s.x.place(1, Scene.LEFT, 1, 0, 0);
            Check.due("another cell is read", s.x.verdict(0), COPIED);
            s.x.guard(0, 6, 0);
            s.x.place(1, Scene.LEFT, 0, 0, 0);
            Check.due("not written in each turn", s.x.verdict(0), SERIAL);
        }
    }

    private static void serial() {
        Check.sentence("4 SERIAL. THE LOOP is PARALLEL, if no ROW is SERIAL.");
        // a turn reads the cell ahead of the one it writes; of two turns from cell 0 on the first ends at place -1
        for (int cell : new int[] {0, 1, 22}) {
            Scene s = new Scene().row(3, 1, 24).turns(2);
            s.tell("add", 1, Scene.at(3, cell, 1, 0), Scene.at(3, cell - 1, 1, 0), Scene.constant(0));
            Check.due("from cell " + cell, s.x.verdict(3), cell == 0 ? SHARED : SERIAL);
        }
    }

    private static void parallel() {
        Check.sentence("THE LOOP is PARALLEL, if no ROW is SERIAL");
        for (int r = 0; r < 6; r++) {
            Scene s = new Scene();
            Check.due("a new object", s.x.count(4), 1);
            s.row(r, 1, 9).turns(2);
            s.tell("rem", 1, Scene.at(r, 0, 0, 0), Scene.at(r, 0, 0, 0), Scene.constant(5));
            Check.due("row " + r + " is serial", s.x.verdict(r), SERIAL);
            Check.due("not parallel", s.x.count(4), 0);
            Check.due("serial rows", s.x.count(5), 1);
            s.turns(1);
            Check.due("parallel", s.x.count(4), 1);
            Check.due("serial rows", s.x.count(5), 0);
        }
        Scene s = new Scene().turns(2);
        for (int r = 0; r < 5; r++) {
            s.row(r, 1, 9).tell("rem", 1, Scene.at(r, 0, 0, 0), Scene.at(r, 0, 0, 0), Scene.constant(5));
            Check.due("serial rows", s.x.count(5), r + 1);
        }
    }

    private static void verdictRefused() {
        Check.sentence("`int verdict(int r)`: VERDICT. BAD.");
        Scene s = new Scene();
        for (int r : Scene.beyond(0, 5)) {
            Check.due("verdict(" + r + ")", s.x.verdict(r), BAD);
        }
        for (int r = 0; r < 6; r++) {
            Check.due("a missing row is no finding", s.x.verdict(r), READ_ONLY);
        }
        Check.due("count(8)", s.x.count(8), 0);
    }

    private static void wouldAsItIs() {
        Check.sentence("VERDICT, were the ROW of a FORM (0 to 3).");
        for (int form = 0; form < 4; form++) {
            for (int right = 0; right < 4; right++) {
                for (String name : new String[] {"add", "max", "xor", "copy"}) {
                    Scene s = gathering(name, form, right);
                    for (int as = 0; as < 4; as++) {
                        String what = name + " of form " + form + " by " + right + ", were it of " + as;
                        int told = s.x.would(0, as);
                        Check.due(what, told, gathering(name, as, right).x.verdict(0));
                        Check.due("right's row, were it of " + as, s.x.would(1, as), READ_ONLY);
                    }
                    Check.due("as it is", s.x.would(0, form), s.x.verdict(0));
                }
            }
        }
    }

    private static void wouldAsItWere() {
        Check.sentence("were the ROW of a FORM");
        Scene s = gathering("max", 0, 1);
        long before = s.x.digest();
        Check.due("were it of shorts", s.x.would(0, 0), SERIAL);
        Check.due("were it of doubles", s.x.would(0, 3), GATHERED);
        Check.due("it is not", s.x.verdict(0), SERIAL);
        Check.due("nothing is changed", s.x.digest(), before);
        Check.due("it is of shorts still", s.x.put(0, 0, 0, 1), 1);
    }

    private static void wouldOfAForm() {
        Check.sentence("were the ROW of a FORM (0 to 3). BAD");
        Scene s = gathering("max", 0, 1);
        for (int form : Scene.beyond(0, 3)) {
            Check.due("would(0, " + form + ")", s.x.would(0, form), BAD);
        }
        for (int r : Scene.beyond(0, 5)) {
            Check.due("would(" + r + ", 0)", s.x.would(r, 0), BAD);
        }
        Check.due("count(8)", s.x.count(8), 0);
    }

    private static void wouldRefused() {
        Check.sentence("BAD; NULL; NOT: it is of truths.");
        Scene s = new Scene().row(0, 4, 9).row(1, 4, 0);
        Check.due("a missing row, of truths", s.x.would(5, 4), BAD);
        Check.due("a missing row", s.x.would(5, 3), Scene.NULL);
        Check.due("truths", s.x.would(0, 0), StrideTurns.NOT);
        Check.due("truths without cells", s.x.would(1, 3), StrideTurns.NOT);
        Check.due("truths, were they of truths", s.x.would(0, 4), BAD);
        s.row(0, 3, 9);
        Check.due("doubles", s.x.would(0, 0), READ_ONLY);
    }

    private static void witness(Scene s, int r, int earlier, int later, int cell) {
        int[] due = {earlier, later, cell};
        for (int part = 0; part < 3; part++) {
            Check.due("witness(" + r + ", " + part + ")", s.x.witness(r, part), due[part]);
        }
    }

    private static void noWitness() {
        Check.sentence("the earlier TURN (part = 0), the later one (1), the CELL (2); NONE.");
        witness(new Scene(), 5, NONE, NONE, NONE);
        for (int early = 0; early < TURNS; early++) {
            for (int late = 0; late < TURNS; late++) {
                Scene s = two(early, 5, true, late, 5);
                boolean is = early < late;
                witness(s, 0, is ? early : NONE, is ? late : NONE, is ? 5 : NONE);
                witness(s, 1, NONE, NONE, NONE);
            }
        }
        witness(two(0, 5, true, 9, 4), 0, NONE, NONE, NONE);
        witness(two(0, 5, false, 9, 5), 0, NONE, NONE, NONE);
        witness(two(0, 0, true, 9, 0), 0, 0, 9, 0);
        witness(two(0, 8, true, 1, 8), 0, 0, 1, 8);
    }

    /** Row 0's cells, written in turns by the masks in rows 3 and 4; then read in turns by that in row 5. */
    private static Scene three(int cell, int[] turns, int otherCell, int[] otherTurns, int[] readers, int... read) {
        Scene s = new Scene().row(0, 1, 24).row(1, 1, 24).turns(TURNS);
        s.tell("copy", 1, Scene.at(0, cell, 0, 0), Scene.constant(1), Scene.constant(0));
        s.tell("copy", 1, Scene.at(0, otherCell, 0, 0), Scene.constant(1), Scene.constant(0));
        s.tell("copy", read.length, Scene.at(1, 0, 0, 1), Scene.at(0, read[0], 0, read.length > 1 ? read[1] - read[0] : 0),
                Scene.constant(0));
        int[][] masks = {turns, otherTurns, readers};
        for (int k = 0; k < 3; k++) {
            s.row(3 + k, 4, TURNS).x.mask(k, 3 + k);
            for (int i : masks[k]) {
                s.x.put(3 + k, 4, i, 1);
            }
        }
        return s;
    }

    /** A row that a turn reads and writes itself, and reads where an earlier turn wrote. */
    private static void witnessOfEachRow() {
        Check.sentence("WITNESS of a ROW: the least TURN with an EXPOSED CELL that is WRITTEN in an earlier one");
        for (int r = 0; r < 6; r++) {
            Scene s = new Scene().row(r, 1, 24).turns(3);
            s.tell("add", 1, Scene.at(r, 4, 0, 0), Scene.at(r, 4, 0, 0), Scene.at(r, 6, 1, 0));
            s.tell("copy", 1, Scene.at(r, 7, 0, 0), Scene.constant(0), Scene.constant(0));
            s.x.guard(0, 3, 1);
            // turn 1 exposes 4, which it writes itself alone, and 7, which turn 0 writes
            witness(s, r, 0, 1, 7);
            witness(s, (r + 1) % 6, NONE, NONE, NONE);
        }
    }

    private static void leastTurn() {
        Check.sentence("the least TURN with an EXPOSED CELL that is WRITTEN in an earlier one");
        // cell 9 is written by turn 0, cell 3 by turn 5; turn 2 is the first to read both
        witness(three(9, new int[] {0}, 3, new int[] {5}, new int[] {2, 6, 8}, 3, 9), 0, 0, 2, 9);
        witness(three(9, new int[] {4}, 3, new int[] {5}, new int[] {2, 6, 8}, 3, 9), 0, 5, 6, 3);
        witness(three(9, new int[] {8}, 3, new int[] {9}, new int[] {0, 1, 9}, 3, 9), 0, 8, 9, 9);
        witness(three(9, new int[] {8}, 3, new int[] {9}, new int[] {0, 1, 8}, 3, 9), 0, NONE, NONE, NONE);
    }

    private static void leastCell() {
        Check.sentence("of such CELLS the least");
        witness(three(9, new int[] {6}, 3, new int[] {1}, new int[] {7, 8}, 9, 3), 0, 1, 7, 3);
        witness(three(23, new int[] {0}, 0, new int[] {0}, new int[] {9}, 23, 23), 0, 0, 9, 23);
        witness(three(4, new int[] {0}, 3, new int[] {0}, new int[] {9}, 3, 4), 0, 0, 9, 3);
        // cell 3 is read, but written by none; cell 0, too
        witness(three(9, new int[] {6}, 2, new int[] {1}, new int[] {7, 8}, 9, 3), 0, 6, 7, 9);
        witness(three(5, new int[] {6}, 2, new int[] {1}, new int[] {7, 8}, 5, 0), 0, 6, 7, 5);
        // cell 3 is written by the reading turn itself, ahead of the reading
        witness(three(9, new int[] {6}, 3, new int[] {1, 7}, new int[] {7, 8}, 9, 3), 0, 6, 7, 9);
    }

    private static void lastOfEarlierTurns() {
        Check.sentence("of those earlier TURNS the last");
        witness(three(9, new int[] {0, 1, 5, 8, 9}, 3, new int[] {7}, new int[] {6, 8}, 9), 0, 5, 6, 9);
        witness(three(9, new int[] {0, 1, 7, 8}, 3, new int[] {7}, new int[] {9}, 9), 0, 8, 9, 9);
        witness(three(9, new int[] {0, 9}, 3, new int[] {7}, new int[] {8}, 9), 0, 0, 8, 9);
        // by a pick, too
        Scene s = new Scene().row(3, 1, 24).turns(TURNS);
        s.tell("copy", 1, Scene.at(3, 9, 0, 0), Scene.constant(1), Scene.constant(0));
        s.tell("pick", 1, Scene.at(3, 9, 0, 0), Scene.constant(1), Scene.constant(0));
        s.tell("pick", 1, Scene.at(3, 8, 0, 0), Scene.constant(1), Scene.constant(0));
        s.tell("add", 1, Scene.at(3, 7, 0, 0), Scene.at(3, 9, 0, 0), Scene.at(3, 7, 0, 0));
        s.x.guard(0, 6, 1);
        s.x.guard(1, 6, 3);
        s.x.guard(2, 6, 0);
        s.x.guard(3, 6, 5);
        witness(s, 3, 3, 5, 9);
        s.x.place(3, Scene.RIGHT, 8, 0, 0);
        witness(s, 3, 0, 5, 8);
    }

    private static void witnessRefused() {
        Check.sentence("the CELL (2); NONE. BAD.");
        Scene s = two(1, 5, true, 2, 5);
        for (int r : Scene.beyond(0, 5)) {
            Check.due("witness(" + r + ", 0)", s.x.witness(r, 0), BAD);
        }
        for (int part : Scene.beyond(0, 2)) {
            Check.due("witness(0, " + part + ")", s.x.witness(0, part), BAD);
            Check.due("witness(5, " + part + ") of a row without one", s.x.witness(5, part), BAD);
        }
    }
}
