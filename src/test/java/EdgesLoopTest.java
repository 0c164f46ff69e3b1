/** The edges that the document names of the loop as it is told, a method a sentence: promises 7 to 17, what may be undone. */
public final class EdgesLoopTest {
    private static final int MIN = Integer.MIN_VALUE, MAX = Integer.MAX_VALUE;
    private static final int MOST_TURNS = 10, MOST_STATEMENTS = 5, MOST_ITEMS = 5, MOST_BYTES = 5, MOST_UNDONE = 20;
    private static final String[] NAMES = {
        "add", "sub", "mul", "rem", "max", "min", "and", "or", "xor", "copy", "pick", "sure", "times"};

    public static void main(String[] args) {
        turnsThereAre();
        turnsWere();
        statementsThereAre();
        itemsThereAre();
        referencesAtFirst();
        targetIsNoConstant();
        placesThatMayBeTold();
        placesAtFirst();
        farthestPlaces();
        constantsStay();
        guardsThatMayBeTold();
        guardAtFirst();
        turnsOfAPeriod();
        masks();
        bytesThereAre();
        textIsFull();
        textIsEmpty();
        names();
        noNames();
        statementTakesTheText();
        statementRefused();
        referredBefore();
        placeRefused();
        phaseBelowItsPeriod();
        maskedBefore();
        undone();
        undoneToWhatWasTold();
        undoneOneBehindAnother();
        undoneStatement();
        nothingToUndo();
        latestTwenty();
        toldAndUndone();
        toldThoughTheSame();
        whatIsNotTold();
        infoOfANewOne();
        turnsDone();
        infoRefused();
        referenceRefused();
        Check.end();
    }

    private static void turnsThereAre() {
        Check.sentence("TURNS 0 to N less 1 (N 0 to 10; 0 at first)");
        Scene s = new Scene();
        s.state("add", 1);
        Check.due("count(0) at first", s.x.count(0), 0);
        for (int n : new int[] {0, 1, 9, MOST_TURNS}) {
            s.turns(n);
            Check.due("count(0)", s.x.count(0), n);
            Check.due("turn 0 of " + n, s.x.section(0, 0, 2), n == 0 ? MIN : 1);
            Check.due("turn " + (n - 1) + " of " + n, s.x.section(0, n - 1, 2), n == 0 ? MIN : 1);
            Check.due("turn " + n + " of " + n, s.x.section(0, n, 2), MIN);
            Check.due("turn -1 of " + n, s.x.section(0, -1, 2), MIN);
            Check.due("turn " + n + " of " + n, s.x.many(0, 0, n), StrideTurns.BAD);
            Check.due("turns with it done", s.x.info(0, 6), n);
        }
    }

    private static void turnsWere() {
        Check.sentence("N: what it was. BAD.");
        StrideTurns x = new StrideTurns();
        int was = 0;
        for (int n : new int[] {MOST_TURNS, 0, 0, 1, 9, 10, 10}) {
            Check.due("turns(" + n + ")", x.turns(n), was);
            was = n;
        }
        for (int n : Scene.beyond(0, MOST_TURNS)) {
            Check.due("turns(" + n + ")", x.turns(n), StrideTurns.BAD);
        }
        Check.due("turns(3)", x.turns(3), MOST_TURNS);
    }

    private static void statementsThereAre() {
        Check.sentence("STATEMENTS are done one behind another, 0 on, 5 at most");
        Scene s = new Scene().row(0, 1, 1).turns(1);
        Check.due("statement 0 ahead of all", s.x.info(0, 0), StrideTurns.BAD);
        for (int k = 0; k < MOST_STATEMENTS; k++) {
            Check.due("number", s.state(k % 2 == 0 ? "add" : "mul", 1), k);
            Check.due("count(1)", s.x.count(1), k + 1);
            Check.due("the next one", s.x.info(k + 1, 0), StrideTurns.BAD);
            s.refer(k, Scene.LEFT, 0, 0, 0, 0);
            s.x.place(k, Scene.RIGHT, k + 2, 0, 0);
        }
        s.type("add");
        Check.due("a sixth", s.x.statement(1), StrideTurns.FULL);
        Check.due("count(1)", s.x.count(1), MOST_STATEMENTS);
        s.x.run();
        Check.due("one behind another", s.x.get(0, 0), ((0 + 2) * 3 + 4) * 5 + 6);
    }

    private static void itemsThereAre() {
        Check.sentence("a COUNT (1 to 5) of ITEMS, 0 on, done one behind another");
        for (int count = 1; count <= MOST_ITEMS; count++) {
            Scene s = new Scene().row(0, 1, 8, 1).turns(1);
            // each item doubles what the one ahead of it wrote
            s.tell("add", count, Scene.at(0, 1, 0, 1), Scene.at(0, 0, 0, 1), Scene.at(0, 0, 0, 1));
            Check.due("info(0, 1)", s.x.info(0, 1), count);
            Check.due("run() of " + count, s.x.run(), count);
            for (int i = 0; i < 8; i++) {
                Check.due("get(0, " + i + ") of " + count, s.x.get(0, i), i <= count ? 1 << i : 0);
            }
        }
        Scene s = new Scene();
        s.type("add");
        for (int count : Scene.beyond(1, MOST_ITEMS)) {
            Check.due("statement(" + count + ")", s.x.statement(count), StrideTurns.BAD);
        }
    }

    private static void referencesAtFirst() {
        Check.sentence("each to a ROW (at first TARGET to ROW 0), or, but for TARGET, a CONSTANT (at first)");
        for (String name : NAMES) {
            Scene s = new Scene();
            s.state(name, 1);
            Check.due("target of " + name, s.x.reference(0, Scene.TARGET, 0), 0);
            Check.due("left of " + name, s.x.reference(0, Scene.LEFT, 0), StrideTurns.NONE);
            Check.due("right of " + name, s.x.reference(0, Scene.RIGHT, 0), StrideTurns.NONE);
        }
    }

    private static void targetIsNoConstant() {
        Check.sentence("or, but for TARGET, a CONSTANT");
        Scene s = new Scene();
        s.state("add", 1);
        Check.due("refer(0, 0, NONE)", s.x.refer(0, Scene.TARGET, StrideTurns.NONE), StrideTurns.BAD);
        for (int which = 0; which < 3; which++) {
            Check.due("to row 5", s.x.refer(0, which, 5), which == 0 ? 0 : StrideTurns.NONE);
            int answer = s.x.refer(0, which, StrideTurns.NONE);
            Check.due("no row again", answer, which == 0 ? StrideTurns.BAD : 5);
            Check.due("to which row", s.x.reference(0, which, 0), which == 0 ? 5 : StrideTurns.NONE);
        }
    }

    private static void placesThatMayBeTold() {
        Check.sentence("with FROM (-60 to 60), BY and STEP (-6 to 6");
        Scene s = new Scene();
        s.state("add", 1);
        for (int which = 0; which < 3; which++) {
            Check.due("the least", s.x.place(0, which, -60, -6, -6), 1);
            for (int beyond : Scene.beyond(-60, 60)) {
                Check.due("from " + beyond, s.x.place(0, which, beyond, 0, 0), StrideTurns.BAD);
            }
            for (int beyond : Scene.beyond(-6, 6)) {
                Check.due("by " + beyond, s.x.place(0, which, 0, beyond, 0), StrideTurns.BAD);
                Check.due("step " + beyond, s.x.place(0, which, 0, 0, beyond), StrideTurns.BAD);
            }
            Check.due("from stays", s.x.reference(0, which, 1), -60);
            Check.due("the greatest", s.x.place(0, which, 60, 6, 6), 1);
            Check.due("from", s.x.reference(0, which, 1), 60);
            Check.due("by", s.x.reference(0, which, 2), 6);
            Check.due("step", s.x.reference(0, which, 3), 6);
        }
    }

    private static void placesAtFirst() {
        Check.sentence("BY and STEP (-6 to 6; all 0 at first)");
        Scene s = new Scene();
        s.state("add", 5);
        s.x.place(0, 1, 9, 5, 4);
        s.x.undo();
        s.x.undo();
        s.state("add", 5);
        for (int which = 0; which < 3; which++) {
            for (int what = 1; what <= 3; what++) {
                Check.due("reference(0, " + which + ", " + what + ")", s.x.reference(0, which, what), 0);
            }
        }
    }

    private static void farthestPlaces() {
        Check.sentence("Its PLACE in TURN i for ITEM j is FROM, BY times i and STEP times j together");
        Scene s = new Scene().turns(MOST_TURNS);
        s.state("add", MOST_ITEMS);
        int[][] told = {{60, 6, 6}, {-60, -6, -6}, {60, 6, -6}, {-60, -6, 6}, {0, 6, -6}, {7, 0, 0}, {-3, 2, -1}};
        for (int[] t : told) {
            s.x.place(0, Scene.TARGET, t[0], t[1], t[2]);
            for (int i : new int[] {0, 1, 9}) {
                int first = t[0] + t[1] * i;
                int last = first + t[2] * 4;
                Check.due("the least in turn " + i, s.x.section(0, i, 0), Math.min(first, last));
                int many = s.x.section(0, i, 2);
                Check.due("the greatest", s.x.section(0, i, 0) + s.x.section(0, i, 1) * (many - 1), Math.max(first, last));
            }
        }
    }

    private static void constantsStay() {
        Check.sentence("a CONSTANT is FROM");
        Scene s = new Scene().row(0, 1, 20).turns(4);
        s.tell("mul", 5, Scene.at(0, 0, 5, 1), new int[] {StrideTurns.NONE, -60, 6, 6}, new int[] {StrideTurns.NONE, 60, -6, -6});
        Check.due("run()", s.x.run(), 20);
        for (int i = 0; i < 20; i++) {
            Check.due("get(0, " + i + ")", s.x.get(0, i), -3600);
        }
    }

    private static void guardsThatMayBeTold() {
        Check.sentence("PERIOD (1 to 6; 1 at first), PHASE (0 to PERIOD less 1");
        Scene s = new Scene();
        s.state("add", 1);
        for (int period = 1; period <= 6; period++) {
            for (int phase = 0; phase < period; phase++) {
                Check.due("guard(0, " + period + ", " + phase + ")", s.x.guard(0, period, phase), 1);
                Check.due("period", s.x.info(0, 2), period);
                Check.due("phase", s.x.info(0, 3), phase);
            }
            for (int phase : Scene.beyond(0, period - 1)) {
                Check.due("guard(0, " + period + ", " + phase + ")", s.x.guard(0, period, phase), StrideTurns.BAD);
            }
        }
        for (int period : Scene.beyond(1, 6)) {
            Check.due("guard(0, " + period + ", 0)", s.x.guard(0, period, 0), StrideTurns.BAD);
        }
        Check.due("the last one stays", 10 * s.x.info(0, 2) + s.x.info(0, 3), 65);
    }

    private static void guardAtFirst() {
        Check.sentence("1 at first), PHASE (0 to PERIOD less 1; 0 at first) and MASK (a ROW; NONE at first)");
        Scene s = new Scene();
        s.state("add", 1);
        s.x.guard(0, 6, 5);
        s.x.mask(0, 3);
        for (int told = 0; told < 3; told++) {
            s.x.undo();
        }
        s.state("sub", 1);
        Check.due("period", s.x.info(0, 2), 1);
        Check.due("phase", s.x.info(0, 3), 0);
        Check.due("mask", s.x.info(0, 4), StrideTurns.NONE);
    }

    private static void turnsOfAPeriod() {
        Check.sentence("it is DONE in TURNS i where i modulo PERIOD is PHASE");
        for (int period = 1; period <= 6; period++) {
            for (int phase = 0; phase < period; phase++) {
                Scene s = new Scene().row(0, 1, MOST_TURNS).turns(MOST_TURNS);
                s.tell("add", 1, Scene.at(0, 0, 1, 0), Scene.constant(1), Scene.constant(0));
                s.x.guard(0, period, phase);
                s.x.run();
                for (int i = 0; i < MOST_TURNS; i++) {
                    Check.due("turn " + i + " of period " + period + ", phase " + phase, s.x.get(0, i), i % period == phase ? 1 : 0);
                }
                s.turns(phase);
                Check.due("without that turn", s.x.info(0, 6), 0);
                s.turns(phase + 1);
                Check.due("with that turn alone", s.x.info(0, 6), 1);
            }
        }
    }

    private static void masks() {
        Check.sentence("if there is a MASK, that is a ROW of truths with a CELL i that is true");
        Scene s = new Scene().turns(MOST_TURNS).row(0, 1, MOST_TURNS);
        s.tell("add", 1, Scene.at(0, 0, 1, 0), Scene.constant(1), Scene.constant(0));
        s.x.mask(0, 5);
        Check.due("a mask that is missing", s.x.info(0, 6), 0);
        for (int form = 0; form < 4; form++) {
            s.row(5, form, 24, 8, 8, 8, 8, 8, 8, 8, 8, 8, 8);
            Check.due("a mask of form " + form, s.x.info(0, 6), 0);
            Check.due("run()", s.x.run(), 0);
        }
        s.row(5, 4, 0);
        Check.due("a mask of no cells", s.x.info(0, 6), 0);
        s.row(5, 4, 24);
        Check.due("a mask of false cells", s.x.info(0, 6), 0);
        s.x.put(5, 4, 10, 1);
        Check.due("a true cell behind the turns", s.x.info(0, 6), 0);
        s.x.put(5, 4, 9, 1);
        Check.due("a true cell of the last turn", s.x.info(0, 6), 1);
        s.row(5, 4, 3, 1, 0, 1);
        Check.due("a mask of three cells", s.x.info(0, 6), 2);
        Check.due("run()", s.x.run(), 2);
        for (int i = 0; i < MOST_TURNS; i++) {
            Check.due("turn " + i, s.x.get(0, i), i == 0 || i == 2 ? 1 : 0);
        }
        s.x.guard(0, 3, 2);
        Check.due("by the period, too", s.x.info(0, 6), 1);
        s.x.mask(0, StrideTurns.NONE);
        Check.due("by the period alone", s.x.info(0, 6), 3);
    }

    private static void bytesThereAre() {
        Check.sentence("A byte (0 to 255) comes behind THE TEXT");
        StrideTurns x = new StrideTurns();
        for (int b : Scene.beyond(0, 255)) {
            Check.due("type(" + b + ")", x.type(b), StrideTurns.BAD);
        }
        Check.due("count(3)", x.count(3), 0);
        Check.due("type(0)", x.type(0), 1);
        Check.due("type(255)", x.type(255), 2);
        x.wipe();
        // a name with another byte behind it, or ahead of it, is another text
        for (int b : new int[] {0, 255, 256 - 'a', ' '}) {
            Scene s = new Scene();
            s.x.type(b);
            s.type("add");
            Check.due("byte " + b + " ahead of add", s.x.statement(1), StrideTurns.NOT);
            s.x.wipe();
            s.type("add");
            s.x.type(b);
            Check.due("byte " + b + " behind add", s.x.statement(1), StrideTurns.NOT);
        }
    }

    private static void textIsFull() {
        Check.sentence("comes behind THE TEXT (5 at most): how many. BAD; FULL.");
        Scene s = new Scene();
        String times = "times";
        for (int n = 1; n <= MOST_BYTES; n++) {
            Check.due("a byte more", s.x.type(times.charAt(n - 1)), n);
        }
        Check.due("a sixth", s.x.type('x'), StrideTurns.FULL);
        Check.due("a bad sixth", s.x.type(256), StrideTurns.BAD);
        Check.due("count(3)", s.x.count(3), MOST_BYTES);
        Check.due("the five are as they were", s.x.statement(1), 0);
        Check.due("there is room again", s.x.type('x'), 1);
    }

    private static void textIsEmpty() {
        Check.sentence("THE TEXT is empty: how many bytes it had.");
        Scene s = new Scene();
        Check.due("wipe() of none", s.x.wipe(), 0);
        for (int n = 1; n <= MOST_BYTES; n++) {
            s.type("sssss".substring(0, n));
            Check.due("wipe()", s.x.wipe(), n);
            Check.due("count(3)", s.x.count(3), 0);
        }
        s.type("or");
        Check.due("what comes then is alone", s.x.statement(1), 0);
        Check.due("info(0, 0)", s.x.info(0, 0), 7);
    }

    private static void names() {
        Check.sentence("its OPERATION by name THE TEXT, which is empty then: its number.");
        for (int operation = 0; operation < NAMES.length; operation++) {
            Scene s = new Scene();
            Check.due(NAMES[operation], s.state(NAMES[operation], 5), 0);
            Check.due("its operation", s.x.info(0, 0), operation);
            Check.due("count(3)", s.x.count(3), 0);
            Check.due("the same text is not there", s.x.statement(5), StrideTurns.NOT);
        }
    }

    private static void noNames() {
        Check.sentence("NOT: THE TEXT is no name");
        Scene s = new Scene();
        Check.due("an empty text", s.x.statement(1), StrideTurns.NOT);
        for (String name : NAMES) {
            for (int cut = 1; cut < name.length(); cut++) {
                noName(s, name.substring(0, cut));
            }
            noName(s, name.toUpperCase());
            noName(s, name.charAt(0) + name.substring(0, Math.min(MOST_BYTES - 1, name.length())));
            if (name.length() < MOST_BYTES) {
                noName(s, name + "s");
            }
            if (!name.equals("xor")) {
                noName(s, name.substring(1));
            }
        }
        Check.due("count(1)", s.x.count(1), 0);
    }

    private static void noName(Scene s, String text) {
        s.type(text);
        Check.due(text, s.x.statement(1), StrideTurns.NOT);
        Check.due(text + " stays", s.x.wipe(), text.length());
    }

    private static void statementTakesTheText() {
        Check.sentence("which is empty then");
        Scene s = new Scene();
        s.state("add", 1);
        s.type("ad");
        Check.due("a text of its own", s.x.count(3), 2);
        Check.due("ad", s.x.statement(1), StrideTurns.NOT);
        Check.due("a refused one keeps it", s.x.count(3), 2);
        s.x.type('d');
        Check.due("statement(0)", s.x.statement(0), StrideTurns.BAD);
        Check.due("a bad one keeps it", s.x.count(3), 3);
        Check.due("statement(1)", s.x.statement(1), 1);
        Check.due("count(3)", s.x.count(3), 0);
    }

    private static void statementRefused() {
        Check.sentence("BAD; NOT: THE TEXT is no name; FULL.");
        Scene s = new Scene();
        for (int k = 0; k < MOST_STATEMENTS; k++) {
            s.state("add", 1);
        }
        Check.due("a bad count, no name, a sixth", s.x.statement(0), StrideTurns.BAD);
        Check.due("no name, a sixth", s.x.statement(1), StrideTurns.NOT);
        s.type("add");
        Check.due("a bad count of a sixth", s.x.statement(6), StrideTurns.BAD);
        Check.due("a sixth", s.x.statement(1), StrideTurns.FULL);
        Check.due("the text stays", s.x.count(3), 3);
        s.x.undo();
        Check.due("a fifth", s.x.statement(1), 4);
    }

    private static void referredBefore() {
        Check.sentence("A REFERENCE is to ROW r, or (NONE; not TARGET) a CONSTANT: what it was to (NONE). BAD.");
        Scene s = new Scene();
        s.state("copy", 1);
        for (int which = 0; which < 3; which++) {
            int was = which == 0 ? 0 : StrideTurns.NONE;
            for (int r : new int[] {0, 5, 5, 0}) {
                Check.due("refer(0, " + which + ", " + r + ")", s.x.refer(0, which, r), was);
                Check.due("to which row", s.x.reference(0, which, 0), r);
                was = r;
            }
            Check.due("refer(0, " + which + ", 6)", s.x.refer(0, which, 6), StrideTurns.BAD);
            Check.due("refer(0, " + which + ", -2)", s.x.refer(0, which, -2), StrideTurns.BAD);
            Check.due("refer(1, " + which + ", 0)", s.x.refer(1, which, 0), StrideTurns.BAD);
        }
        Check.due("refer(0, 3, 0)", s.x.refer(0, 3, 0), StrideTurns.BAD);
        Check.due("refer(0, -1, 0)", s.x.refer(0, -1, 0), StrideTurns.BAD);
    }

    private static void placeRefused() {
        Check.sentence("FROM, BY, STEP of a REFERENCE: 1. BAD.");
        Scene s = new Scene();
        Check.due("no statement", s.x.place(0, 0, 0, 0, 0), StrideTurns.BAD);
        s.state("copy", 1);
        for (int which = 0; which < 3; which++) {
            Check.due("place(0, " + which + ", ..)", s.x.place(0, which, 10 + which, 1, 2), 1);
        }
        Check.due("place(0, 3, ..)", s.x.place(0, 3, 0, 0, 0), StrideTurns.BAD);
        Check.due("place(0, -1, ..)", s.x.place(0, -1, 0, 0, 0), StrideTurns.BAD);
        Check.due("place(1, 0, ..)", s.x.place(1, 0, 0, 0, 0), StrideTurns.BAD);
        for (int which = 0; which < 3; which++) {
            Check.due("each has its own", s.x.reference(0, which, 1), 10 + which);
        }
        s.x.refer(0, Scene.LEFT, 3);
        s.x.refer(0, Scene.LEFT, StrideTurns.NONE);
        Check.due("it is the place's, whatever it is to", s.x.reference(0, Scene.LEFT, 1), 11);
    }

    private static void phaseBelowItsPeriod() {
        Check.sentence("PERIOD, PHASE: 1. BAD.");
        Scene s = new Scene();
        s.state("add", 1);
        Check.due("guard(0, 3, 2)", s.x.guard(0, 3, 2), 1);
        Check.due("a lesser period with that phase", s.x.guard(0, 2, 2), StrideTurns.BAD);
        Check.due("the period stays", s.x.info(0, 2), 3);
        Check.due("the phase stays", s.x.info(0, 3), 2);
        Check.due("no such statement", s.x.guard(1, 1, 0), StrideTurns.BAD);
        Check.due("no such statement", s.x.guard(-1, 1, 0), StrideTurns.BAD);
        Check.due("guard(0, 2, 1)", s.x.guard(0, 2, 1), 1);
    }

    private static void maskedBefore() {
        Check.sentence("MASK (NONE): what it was. BAD.");
        Scene s = new Scene();
        s.state("add", 1);
        int was = StrideTurns.NONE;
        for (int r : new int[] {0, 5, 5, StrideTurns.NONE, StrideTurns.NONE, 2}) {
            Check.due("mask(0, " + r + ")", s.x.mask(0, r), was);
            Check.due("info(0, 4)", s.x.info(0, 4), r);
            was = r;
        }
        for (int r : Scene.beyond(-1, 5)) {
            Check.due("mask(0, " + r + ")", s.x.mask(0, r), StrideTurns.BAD);
        }
        Check.due("mask(1, 0)", s.x.mask(1, 0), StrideTurns.BAD);
        Check.due("it stays", s.x.info(0, 4), 2);
    }

    private static void undone() {
        Check.sentence("What was told last is UNDONE: what it was: 0 turns(), 1 statement() (it is gone), 2 refer(), 3 place(), "
                + "4 guard(), 5 mask().");
        Scene s = new Scene().turns(10);
        s.state("add", 1);
        s.x.refer(0, Scene.TARGET, 5);
        s.x.place(0, Scene.TARGET, 60, -6, 6);
        s.x.guard(0, 6, 5);
        s.x.mask(0, 5);
        Check.due("mask()", s.x.undo(), 5);
        Check.due("no mask", s.x.info(0, 4), StrideTurns.NONE);
        Check.due("guard()", s.x.undo(), 4);
        Check.due("period and phase", 10 * s.x.info(0, 2) + s.x.info(0, 3), 10);
        Check.due("place()", s.x.undo(), 3);
        for (int what = 1; what <= 3; what++) {
            Check.due("reference(0, 0, " + what + ")", s.x.reference(0, 0, what), 0);
        }
        Check.due("refer()", s.x.undo(), 2);
        Check.due("to which row", s.x.reference(0, 0, 0), 0);
        Check.due("statement()", s.x.undo(), 1);
        Check.due("it is gone", s.x.info(0, 0), StrideTurns.BAD);
        Check.due("turns()", s.x.undo(), 0);
        Check.due("count(0)", s.x.count(0), 0);
    }

    /** One of the six acts that may be undone, of a statement and a reference; told again it tells something else. */
    private static int tell(Scene s, int act, int k, int which, int time) {
        switch (act) {
            case 0: return s.x.turns(3 + k + time);
            case 1: return s.state("sub", 1 + k + time);
            case 2: return s.x.refer(k, which, 5 - which - time);
            case 3: return s.x.place(k, which, 7 + time, which + 1, k - 5);
            case 4: return s.x.guard(k, 6, 2 * k + time + 1);
            default: return s.x.mask(k, 4 - time);
        }
    }

    private static void undoneToWhatWasTold() {
        Check.sentence("What was told last is UNDONE");
        for (int n = 0; n < 36; n++) {
            int act = n % 6;
            int k = n / 6 % 2;
            int which = n / 12;
            Scene s = new Scene().row(0, 1, 24).row(1, 1, 24).row(2, 1, 24).row(3, 4, 10, 1, 1, 0, 1, 0, 1, 1, 1);
            s.turns(which == 2 ? 0 : 9);
            s.tell("add", 2, Scene.at(0, 3, 1, 1), Scene.at(1, 5, 1, -1), Scene.at(2, 9, -1, 2));
            s.tell("max", 3, Scene.at(1, 1, 1, 1), Scene.at(2, 8, 1, -1), Scene.at(0, 9, -1, 3));
            s.x.guard(k, 3, 1);
            for (int time = 0; time < 2; time++) {
                // all else stays, as it was at first or as it was told ahead
                long before = s.x.digest();
                tell(s, act, k, which, time);
                Check.holds("it is told", s.x.digest() != before);
                Check.due("undo()", s.x.undo(), act);
                Check.due("digest() behind act " + act + " of " + k + ", " + which + " undone", s.x.digest(), before);
                tell(s, act, k, which, 0);
            }
        }
    }

    private static void undoneOneBehindAnother() {
        Check.sentence("UNDONE may be what was told last of THE LOOP (turns(), statement(), refer(), place(), guard(), mask()), "
                + "one behind another");
        Scene s = new Scene();
        s.state("add", 1);
        s.state("sub", 1);
        // of two statements and three references, so that each one gets back its own
        for (int told = 0; told < 12; told++) {
            s.x.place(told % 2, told % 3, told, told % 5, -told % 4);
        }
        for (int told = 11; told >= 0; told--) {
            for (int what = 1; what <= 3; what++) {
                int due = what == 1 ? told : what == 2 ? told % 5 : -told % 4;
                Check.due("place " + told, s.x.reference(told % 2, told % 3, what), due);
            }
            Check.due("undo()", s.x.undo(), 3);
            Check.due("what was told ahead of " + told, s.x.reference(told % 2, told % 3, 1), told < 6 ? 0 : told - 6);
        }
        Check.due("count(2)", s.x.count(2), 2);
    }

    private static void undoneStatement() {
        Check.sentence("1 statement() (it is gone)");
        Scene s = new Scene().row(0, 1, 3).turns(2);
        for (int k = 0; k < MOST_STATEMENTS; k++) {
            s.state("copy", 1);
            s.x.place(k, Scene.LEFT, k + 1, 0, 0);
        }
        s.x.undo();
        Check.due("undo()", s.x.undo(), 1);
        Check.due("count(1)", s.x.count(1), MOST_STATEMENTS - 1);
        Check.due("info(4, 0)", s.x.info(4, 0), StrideTurns.BAD);
        Check.due("the text is not there again", s.x.count(3), 0);
        Check.due("run()", s.x.run(), 8);
        Check.due("of the last one that is left", s.x.get(0, 0), 4);
        Check.due("there is room again", s.state("copy", 1), 4);
        Check.due("and it is a new one", s.x.reference(4, Scene.LEFT, 1), 0);
    }

    private static void nothingToUndo() {
        Check.sentence("NOT: there is no such thing.");
        Scene s = new Scene();
        Check.due("undo() of a new object", s.x.undo(), StrideTurns.NOT);
        s.turns(3);
        s.type("xor");
        Check.due("undo()", s.x.undo(), 0);
        long before = s.x.digest();
        Check.due("undo() once more", s.x.undo(), StrideTurns.NOT);
        Check.due("digest()", s.x.digest(), before);
        Check.due("count(2)", s.x.count(2), 0);
        Check.due("the text is still there", s.x.count(3), 3);
        Check.due("count(0)", s.x.count(0), 0);
    }

    private static void latestTwenty() {
        Check.sentence("one behind another, of the latest 20.");
        for (int told : new int[] {19, 20, 21, 22, 39, 40, 41, 60, 61}) {
            StrideTurns x = new StrideTurns();
            for (int t = 1; t <= told; t++) {
                x.turns(t % 7);
            }
            int held = Math.min(told, MOST_UNDONE);
            Check.due("count(2) of " + told, x.count(2), held);
            for (int t = told - 1; t >= told - held; t--) {
                Check.due("undo()", x.undo(), 0);
                Check.due("count(0)", x.count(0), t % 7);
            }
            Check.due("count(2)", x.count(2), 0);
            Check.due("undo() behind the last of " + told, x.undo(), StrideTurns.NOT);
            Check.due("what is too old stays", x.count(0), (told - held) % 7);
        }
    }

    private static void toldAndUndone() {
        Check.sentence("of the latest 20");
        StrideTurns x = new StrideTurns();
        int[] was = new int[64];
        int told = 0;
        int oldest = 0;
        // up and down over the end of what is kept
        for (int[] acts : new int[][] {{18, 5}, {9, 3}, {4, 20}, {20, 0}, {7, 12}}) {
            for (int up = 0; up < acts[0]; up++) {
                was[told] = x.count(0);
                x.turns((3 * told + acts[0]) % 11);
                told++;
                oldest = Math.max(oldest, told - MOST_UNDONE);
                Check.due("count(2)", x.count(2), told - oldest);
            }
            for (int down = 0; down < acts[1]; down++) {
                boolean there = told > oldest;
                Check.due("undo()", x.undo(), there ? 0 : StrideTurns.NOT);
                told -= there ? 1 : 0;
                Check.due("count(0)", x.count(0), there ? was[told] : x.count(0));
                Check.due("count(2)", x.count(2), told - oldest);
            }
        }
    }

    private static void toldThoughTheSame() {
        Check.sentence("UNDONE may be what was told last of THE LOOP");
        Scene s = new Scene();
        Check.due("turns(0) of none", s.x.turns(0), 0);
        s.state("add", 1);
        s.x.refer(0, Scene.TARGET, 0);
        s.x.refer(0, Scene.LEFT, StrideTurns.NONE);
        s.x.place(0, Scene.RIGHT, 0, 0, 0);
        s.x.guard(0, 1, 0);
        s.x.mask(0, StrideTurns.NONE);
        int[] acts = {5, 4, 3, 2, 2, 1, 0};
        Check.due("count(2)", s.x.count(2), acts.length);
        for (int act : acts) {
            Check.due("undo() of what changed nothing", s.x.undo(), act);
        }
        Check.due("count(2)", s.x.count(2), 0);
    }

    private static void whatIsNotTold() {
        Check.sentence("what was told last of THE LOOP (turns(), statement(), refer(), place(), guard(), mask())");
        Scene s = new Scene().turns(2);
        s.tell("copy", 1, Scene.at(0, 0, 1, 0), Scene.constant(3), Scene.constant(0));
        Check.due("count(2)", s.x.count(2), 8);
        s.row(0, 1, 4, 5, 6).row(1, 1, 4);
        s.x.copy(0, 0, 1, 0, 2);
        s.x.lose(1);
        s.type("add");
        s.x.wipe();
        s.x.run();
        s.x.mixed(2, 0, 0, 0);
        s.x.same(2, 0, 0, 0);
        s.x.digest();
        s.x.turns(11);
        s.x.statement(1);
        s.x.refer(0, 0, -1);
        s.x.place(0, 0, 61, 0, 0);
        s.x.guard(0, 1, 1);
        s.x.mask(0, 6);
        Check.due("count(2) behind other calls and refused ones", s.x.count(2), 8);
        Check.due("undo()", s.x.undo(), 3);
        s.x.undo();
        Check.due("cells stay as runs left them", s.x.get(0, 0), 3);
        Check.due("count(2)", s.x.count(2), 6);
    }

    private static void infoOfANewOne() {
        Check.sentence("OPERATION (what = 0), COUNT (1), PERIOD (2), PHASE (3), MASK (4), FAMILY by which it GATHERS (5), "
                + "in how many TURNS it is DONE (6).");
        Scene s = new Scene();
        s.state("times", 5);
        int[] due = {12, 5, 1, 0, StrideTurns.NONE, 0, 0};
        for (int what = 0; what < due.length; what++) {
            Check.due("info(0, " + what + ")", s.x.info(0, what), due[what]);
        }
    }

    private static void turnsDone() {
        Check.sentence("in how many TURNS it is DONE (6)");
        Scene s = new Scene().turns(MOST_TURNS);
        // the target is missing: each turn ends at its first item, and statement 1 is DONE nevertheless
        s.state("add", 1);
        s.state("add", 1);
        Check.due("in all", s.x.info(1, 6), MOST_TURNS);
        s.x.run();
        Check.due("as it was told", s.x.info(1, 6), MOST_TURNS);
        s.x.guard(1, 6, 4);
        Check.due("in one", s.x.info(1, 6), 1);
        s.turns(4);
        Check.due("in none", s.x.info(1, 6), 0);
        s.turns(0);
        Check.due("without turns", s.x.info(0, 6), 0);
    }

    private static void infoRefused() {
        Check.sentence("in how many TURNS it is DONE (6). BAD.");
        Scene s = new Scene().turns(2);
        Check.due("no statement", s.x.info(0, 1), StrideTurns.BAD);
        s.state("add", 1);
        for (int what : Scene.beyond(0, 6)) {
            Check.due("info(0, " + what + ")", s.x.info(0, what), StrideTurns.BAD);
        }
        for (int k : Scene.beyond(0, 0)) {
            Check.due("info(" + k + ", 1)", s.x.info(k, 1), StrideTurns.BAD);
        }
    }

    private static void referenceRefused() {
        Check.sentence("Of a REFERENCE: to which ROW (what = 0; NONE), FROM (1), BY (2), STEP (3). BAD: the least int.");
        Scene s = new Scene();
        Check.due("no statement", s.x.reference(0, 0, 0), MIN);
        s.state("add", 1);
        // answers that might be taken for refusals
        s.x.place(0, Scene.LEFT, StrideTurns.BAD, StrideTurns.NOT, StrideTurns.FULL);
        int[] due = {StrideTurns.NONE, StrideTurns.BAD, StrideTurns.NOT, StrideTurns.FULL};
        for (int what = 0; what < 4; what++) {
            Check.due("reference(0, 1, " + what + ")", s.x.reference(0, Scene.LEFT, what), due[what]);
        }
        for (int what : Scene.beyond(0, 3)) {
            Check.due("reference(0, 0, " + what + ")", s.x.reference(0, 0, what), MIN);
        }
        for (int which : Scene.beyond(0, 2)) {
            Check.due("reference(0, " + which + ", 0)", s.x.reference(0, which, 0), MIN);
        }
        for (int k : Scene.beyond(0, 0)) {
            Check.due("reference(" + k + ", 0, 0)", s.x.reference(k, 0, 0), MIN);
        }
        Check.due("the greatest int is no refusal", s.x.reference(MAX, 0, 0), MIN);
    }
}
