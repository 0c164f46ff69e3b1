/** The edges that the document names of sections, a method a sentence: promises 18 to 21. */
public final class EdgesSectionsTest {
    private static final int MIN = Integer.MIN_VALUE, MAX = Integer.MAX_VALUE, BAD = StrideTurns.BAD;

    public static void main(String[] args) {
        leastPlace();
        strideOfOne();
        placesThatAreOne();
        notAsked();
        ofAConstant();
        ofEachReference();
        sectionRefused();
        nothingMet();
        oneMet();
        whicheverRows();
        besides();
        meetRefused();
        referencesLookedAt();
        turnsDone();
        samePlaces();
        orderOfKinds();
        howMany();
        noKinds();
        kindsRefused();
        howOften();
        kindRefused();
        Check.end();
    }

    private static void section(Scene s, int e, int i, int first, int stride, int many) {
        int[] due = {first, stride, many};
        for (int part = 0; part < 3; part++) {
            Check.due("section(" + e + ", " + i + ", " + part + ")", s.x.section(e, i, part), due[part]);
        }
    }

    private static void leastPlace() {
        Check.sentence("all its PLACES: FIRST, the least");
        Scene s = new Scene().turns(10);
        s.tell("add", 5, Scene.at(0, 60, 6, 6), Scene.at(0, -60, -6, -6), Scene.at(0, 3, 0, -1));
        section(s, 0, 0, 60, 6, 5);
        section(s, 0, 9, 114, 6, 5);
        section(s, 1, 0, -84, 6, 5);
        section(s, 1, 9, -138, 6, 5);
        section(s, 2, 9, -1, 1, 5);
    }

    private static void strideOfOne() {
        Check.sentence("STRIDE, how far one is from the next (1, if there is one alone)");
        for (int step = -6; step <= 6; step++) {
            Scene s = new Scene().turns(1);
            s.tell("add", 1, Scene.at(0, 9, 0, step), Scene.constant(0), Scene.constant(0));
            s.tell("add", 2, Scene.at(0, 9, 0, step), Scene.constant(0), Scene.constant(0));
            section(s, 0, 0, 9, 1, 1);
            section(s, 3, 0, Math.min(9, 9 + step), step == 0 ? 1 : Math.abs(step), step == 0 ? 1 : 2);
        }
    }

    private static void placesThatAreOne() {
        Check.sentence("(1, if there is one alone); MANY");
        for (int count = 1; count <= 5; count++) {
            Scene s = new Scene().turns(2);
            s.tell("add", count, Scene.at(0, 9, 2, 0), Scene.at(0, 9, 2, 1), Scene.at(0, 9, 2, -6));
            section(s, 0, 1, 11, 1, 1);
            section(s, 1, 1, 11, 1, count);
            section(s, 2, 1, 11 - 6 * (count - 1), count == 1 ? 1 : 6, count);
        }
    }

    private static void notAsked() {
        Check.sentence("(Whether the STATEMENT is DONE, whether there are such CELLS, is not asked.)");
        Scene s = new Scene().turns(3);
        s.tell("copy", 3, Scene.at(5, -2, 1, 1), Scene.at(4, 23, 1, 1), Scene.at(3, 60, 0, 0));
        s.row(4, 4, 0);
        s.x.mask(0, 2);
        s.x.guard(0, 6, 5);
        Check.due("turns with it done", s.x.info(0, 6), 0);
        section(s, 0, 0, -2, 1, 3);
        section(s, 1, 2, 25, 1, 3);
        section(s, 2, 1, 60, 1, 1);
    }

    private static void ofAConstant() {
        Check.sentence("of a CONSTANT BAD");
        Scene s = new Scene().turns(2);
        s.state("add", 2);
        for (int e = 1; e < 3; e++) {
            Check.due("section(" + e + ", 0, 0)", s.x.section(e, 0, 0), MIN);
            Check.due("meet(" + e + ", 0, 0, 0, 0)", s.x.meet(e, 0, 0, 0, 0), MIN);
            Check.due("meet(0, 0, " + e + ", 0, 0)", s.x.meet(0, 0, e, 0, 0), MIN);
            s.x.refer(0, e, 5);
            Check.due("to a row", s.x.section(e, 0, 0), 0);
            Check.due("to a row", s.x.meet(e, 0, 0, 0, 2), 1);
            Check.due("to a row", s.x.meet(0, 0, e, 0, 2), 1);
            s.x.refer(0, e, StrideTurns.NONE);
            Check.due("a constant again", s.x.section(e, 0, 0), MIN);
        }
        // of each statement its own: left of the even ones, right of the odd ones is a constant
        for (int k = 1; k < 5; k++) {
            s.state("add", 1);
        }
        for (int k = 0; k < 5; k++) {
            s.x.refer(k, k % 2 == 0 ? Scene.RIGHT : Scene.LEFT, k);
        }
        for (int e = 0; e < 15; e++) {
            boolean constant = e % 3 == (e / 3 % 2 == 0 ? Scene.LEFT : Scene.RIGHT);
            Check.due("section(" + e + ", 0, 0)", s.x.section(e, 0, 0), constant ? MIN : 0);
        }
    }

    private static void ofEachReference() {
        Check.sentence("(e, g: three times the STATEMENT, and the REFERENCE 0 to 2");
        Scene s = new Scene().turns(1);
        for (int k = 0; k < 5; k++) {
            s.tell("or", 1, Scene.at(0, 10 * k, 0, 0), Scene.at(0, 10 * k + 1, 0, 0), Scene.at(0, 10 * k + 2, 0, 0));
            Check.due("of a statement that is not there", s.x.section(3 * k + 3, 0, 0), MIN);
        }
        for (int e = 0; e < 15; e++) {
            Check.due("section(" + e + ", 0, 0)", s.x.section(e, 0, 0), 10 * (e / 3) + e % 3);
        }
        for (int e : Scene.beyond(0, 14)) {
            Check.due("section(" + e + ", 0, 0)", s.x.section(e, 0, 0), MIN);
            Check.due("meet(" + e + ", 0, 0, 0, 0)", s.x.meet(e, 0, 0, 0, 0), MIN);
            Check.due("meet(0, 0, " + e + ", 0, 0)", s.x.meet(0, 0, e, 0, 0), MIN);
        }
    }

    private static void sectionRefused() {
        Check.sentence("SECTION in TURN i: FIRST (part = 0), STRIDE (1), MANY (2). BAD: the least int.");
        Scene s = new Scene();
        s.tell("add", 2, Scene.at(0, -2, -3, -4), Scene.constant(0), Scene.constant(0));
        Check.due("without turns", s.x.section(0, 0, 0), MIN);
        s.turns(3);
        section(s, 0, 2, -12, 4, 2);
        for (int i : Scene.beyond(0, 2)) {
            Check.due("section(0, " + i + ", 0)", s.x.section(0, i, 0), MIN);
        }
        for (int part : Scene.beyond(0, 2)) {
            Check.due("section(0, 0, " + part + ")", s.x.section(0, 0, part), MIN);
        }
    }

    private static void met(Scene s, int first, int stride, int many, int besides) {
        int[] due = {first, stride, many, besides};
        for (int part = 0; part < 4; part++) {
            Check.due("meet(0, 0, 1, 0, " + part + ")", s.x.meet(0, 0, 1, 0, part), due[part]);
        }
    }

    /** Sections 0 and 1 of a statement of five items. */
    private static Scene two(int from, int step, int otherFrom, int otherStep) {
        Scene s = new Scene().turns(1);
        s.tell("add", 5, Scene.at(0, from, 0, step), Scene.at(0, otherFrom, 0, otherStep), Scene.constant(0));
        return s;
    }

    private static void nothingMet() {
        Check.sentence("with none FIRST is 0, STRIDE 1");
        met(two(10, 2, 11, 2), 0, 1, 0, 5);
        met(two(10, 2, 19, 3), 0, 1, 0, 5);
        met(two(10, 2, 9, -2), 0, 1, 0, 5);
        met(two(10, 6, 13, 6), 0, 1, 0, 5);
        met(two(10, 0, 11, 0), 0, 1, 0, 1);
        met(two(-10, 1, -5, 1), 0, 1, 0, 5);
        // whatever met ahead of it
        Scene s = two(10, 2, 14, 2);
        met(s, 14, 2, 3, 2);
        s.x.place(0, Scene.LEFT, 11, 0, 2);
        met(s, 0, 1, 0, 5);
        s.x.place(0, Scene.LEFT, 18, 0, 2);
        met(s, 18, 1, 1, 4);
    }

    private static void oneMet() {
        Check.sentence("Two MEET in a SECTION: PLACES of both");
        met(two(10, 2, 18, 3), 18, 1, 1, 4);
        met(two(10, 2, 10, -3), 10, 1, 1, 4);
        met(two(10, 0, 10, 3), 10, 1, 1, 0);
        met(two(10, 3, 22, 0), 22, 1, 1, 4);
        met(two(10, 2, 16, 2), 16, 2, 2, 3);
        met(two(10, 6, 10, 3), 10, 6, 3, 2);
        met(two(10, -6, 10, -6), -14, 6, 5, 0);
        met(two(0, 4, 0, 6), 0, 12, 2, 3);
        met(two(0, 5, 0, 4), 0, 1, 1, 4);
        met(two(20, -5, 0, 4), 0, 1, 1, 4);
        met(two(20, -4, 0, 4), 4, 4, 4, 1);
    }

    private static void whicheverRows() {
        Check.sentence("Where SECTION e in TURN i and g in TURN h MEET (whichever their ROWS)");
        Scene s = new Scene().turns(10);
        s.tell("add", 3, Scene.at(0, 0, 1, 1), Scene.at(5, 0, 1, 1), Scene.constant(0));
        s.tell("copy", 5, Scene.at(4, 9, 0, 1), Scene.constant(0), Scene.at(3, 2, 0, -1));
        Check.due("of rows that are missing", s.x.meet(0, 0, 1, 0, 2), 3);
        Check.due("in other turns", s.x.meet(0, 0, 1, 2, 2), 1);
        Check.due("in farther turns", s.x.meet(0, 0, 1, 3, 2), 0);
        Check.due("of the last turn", s.x.meet(1, 9, 3, 0, 2), 3);
        Check.due("right of a copy", s.x.meet(0, 0, 5, 9, 2), 3);
        Check.due("one with itself", s.x.meet(5, 4, 5, 4, 2), 5);
    }

    private static void besides() {
        Check.sentence("how many PLACES e has besides (3)");
        Scene s = new Scene().turns(1);
        s.tell("add", 5, Scene.at(0, 0, 0, 1), Scene.at(0, 3, 0, 1), Scene.at(0, 4, 0, 0));
        int[][] due = {{0, 1, 3}, {1, 0, 3}, {0, 2, 4}, {2, 0, 0}, {0, 0, 0}, {2, 2, 0}};
        for (int[] d : due) {
            Check.due("meet(" + d[0] + ", 0, " + d[1] + ", 0, 3)", s.x.meet(d[0], 0, d[1], 0, 3), d[2]);
        }
    }

    private static void meetRefused() {
        Check.sentence("how many PLACES e has besides (3). BAD: the least int.");
        Scene s = new Scene();
        s.tell("add", 2, Scene.at(0, 0, 0, 1), Scene.at(0, 0, 0, 1), Scene.constant(0));
        Check.due("without turns", s.x.meet(0, 0, 1, 0, 0), MIN);
        s.turns(2);
        Check.due("with turns", s.x.meet(0, 1, 1, 1, 2), 2);
        for (int i : Scene.beyond(0, 1)) {
            Check.due("meet(0, " + i + ", 1, 0, 0)", s.x.meet(0, i, 1, 0, 0), MIN);
            Check.due("meet(0, 0, 1, " + i + ", 0)", s.x.meet(0, 0, 1, i, 0), MIN);
        }
        for (int part : Scene.beyond(0, 3)) {
            Check.due("meet(0, 0, 1, 0, " + part + ")", s.x.meet(0, 0, 1, 0, part), MIN);
        }
    }

    private static void kind(Scene s, int r, int n, int... due) {
        for (int part = 0; part < 4; part++) {
            Check.due("kind(0, " + r + ", " + n + ", " + part + ")", s.x.kind(0, r, n, part), due[part]);
        }
    }

    private static void referencesLookedAt() {
        Check.sentence("SECTIONS of its REFERENCES to it that are looked at");
        for (String name : new String[] {"copy", "pick", "rem", "sure"}) {
            Scene s = new Scene().turns(1);
            s.tell(name, 1, Scene.at(5, 1, 0, 0), Scene.at(5, 2, 0, 0), Scene.at(5, 3, 0, 0));
            boolean copy = name.equals("copy");
            Check.due("kinds(0, 5) of " + name, s.x.kinds(0, 5), copy ? 2 : 3);
            Check.due("to another row", s.x.kinds(0, 4), 0);
            s.x.refer(0, Scene.RIGHT, 4);
            Check.due("right of " + name, s.x.kinds(0, 4), copy ? 0 : 1);
            Check.due("kind(0, 4, 0, 0)", s.x.kind(0, 4, 0, 0), copy ? MIN : 3);
            Check.due("the others", s.x.kinds(0, 5), 2);
            s.x.refer(0, Scene.RIGHT, StrideTurns.NONE);
            s.x.refer(0, Scene.LEFT, StrideTurns.NONE);
            Check.due("of constants there are none", s.x.kinds(0, 5), 1);
        }
    }

    private static void turnsDone() {
        Check.sentence("in TURNS in which it is DONE, those with the same PLACES together");
        Scene s = new Scene().turns(10).row(5, 4, 8, 1, 1, 1, 1, 1, 1, 1, 1);
        s.tell("add", 1, Scene.at(0, 0, 1, 0), Scene.constant(0), Scene.constant(0));
        Check.due("in all turns", s.x.kinds(0, 0), 10);
        s.x.guard(0, 4, 3);
        Check.due("in turns 3 and 7", s.x.kinds(0, 0), 2);
        kind(s, 0, 0, 3, 1, 1, 1);
        kind(s, 0, 1, 7, 1, 1, 1);
        s.x.mask(0, 5);
        s.x.put(5, 4, 3, 0);
        Check.due("in turn 7", s.x.kinds(0, 0), 1);
        kind(s, 0, 0, 7, 1, 1, 1);
        s.turns(7);
        Check.due("in none", s.x.kinds(0, 0), 0);
    }

    private static void samePlaces() {
        Check.sentence("those with the same PLACES together");
        Scene s = new Scene().turns(2);
        // from both ends the same places; FIRST, STRIDE or MANY alone alike are none
        s.tell("add", 3, Scene.at(0, 0, 0, 2), Scene.at(0, 4, 0, -2), Scene.at(0, 0, 0, 1));
        Check.due("another stride", s.x.kinds(0, 0), 2);
        kind(s, 0, 0, 0, 2, 3, 4);
        kind(s, 0, 1, 0, 1, 3, 2);
        s.x.place(0, Scene.RIGHT, 0, 0, 0);
        Check.due("another many", s.x.kinds(0, 0), 2);
        kind(s, 0, 1, 0, 1, 1, 2);
        s.x.place(0, Scene.RIGHT, 1, 0, 2);
        Check.due("another first", s.x.kinds(0, 0), 2);
        kind(s, 0, 1, 1, 2, 3, 2);
        s.x.place(0, Scene.RIGHT, 0, 0, 2);
        Check.due("all the same", s.x.kinds(0, 0), 1);
        kind(s, 0, 0, 0, 2, 3, 6);
        s.x.place(0, Scene.RIGHT, 2, -2, 2);
        Check.due("the same in turn 1", s.x.kinds(0, 0), 2);
        kind(s, 0, 0, 0, 2, 3, 5);
    }

    private static void orderOfKinds() {
        Check.sentence("in the order in which they first come: by TURNS, in one LEFT, RIGHT, TARGET");
        Scene s = new Scene().turns(2);
        s.tell("add", 1, Scene.at(0, 1, 5, 0), Scene.at(0, 3, 5, 0), Scene.at(0, 2, 5, 0));
        int[] due = {3, 2, 1, 8, 7, 6};
        for (int n = 0; n < 6; n++) {
            kind(s, 0, n, due[n], 1, 1, 1);
        }
        // target of turn 1 is what left is in turn 0
        s.x.place(0, Scene.TARGET, -2, 5, 0);
        kind(s, 0, 0, 3, 1, 1, 2);
        kind(s, 0, 2, -2, 1, 1, 1);
        kind(s, 0, 4, 7, 1, 1, 1);
    }

    private static void howMany() {
        Check.sentence("How many KINDS a STATEMENT has to a ROW.");
        Scene s = new Scene().turns(10);
        s.tell("add", 5, Scene.at(3, 0, 6, 1), Scene.at(3, -60, 6, 1), Scene.at(3, 60, 6, 1));
        Check.due("each turn's three", s.x.kinds(0, 3), 30);
        kind(s, 3, 29, 54, 1, 5, 1);
        Check.due("a thirty-first", s.x.kind(0, 3, 30, 0), MIN);
        for (int which = 0; which < 3; which++) {
            s.x.place(0, which, 0, 0, 0);
        }
        Check.due("one in all", s.x.kinds(0, 3), 1);
        kind(s, 3, 0, 0, 1, 1, 30);
    }

    private static void noKinds() {
        Check.sentence("KINDS of a STATEMENT to a ROW");
        Scene s = new Scene();
        s.tell("add", 1, Scene.at(3, 0, 0, 0), Scene.constant(0), Scene.constant(0));
        Check.due("without turns", s.x.kinds(0, 3), 0);
        Check.due("kind(0, 3, 0, 0)", s.x.kind(0, 3, 0, 0), MIN);
        s.turns(1);
        Check.due("with a turn", s.x.kinds(0, 3), 1);
        for (int r = 0; r < 6; r++) {
            Check.due("kinds(0, " + r + ")", s.x.kinds(0, r), r == 3 ? 1 : 0);
        }
        s.tell("add", 1, Scene.at(2, 0, 0, 0), Scene.constant(0), Scene.constant(0));
        Check.due("of another statement", s.x.kinds(1, 3), 0);
    }

    private static void kindsRefused() {
        Check.sentence("How many KINDS a STATEMENT has to a ROW. BAD.");
        Scene s = new Scene().turns(1);
        Check.due("without statements", s.x.kinds(0, 0), BAD);
        s.state("add", 1);
        for (int k : Scene.beyond(0, 0)) {
            Check.due("kinds(" + k + ", 0)", s.x.kinds(k, 0), BAD);
        }
        for (int r : Scene.beyond(0, 5)) {
            Check.due("kinds(0, " + r + ")", s.x.kinds(0, r), BAD);
        }
        Check.due("a missing row is none", s.x.count(8), 0);
    }

    private static void howOften() {
        Check.sentence("how often it comes (3)");
        Scene s = new Scene().turns(10);
        s.tell("add", 1, Scene.at(0, 5, 0, 0), Scene.at(0, 5, 1, 0), Scene.at(0, 14, -1, 0));
        // 5 comes ten times as target, once as left, once as right; all other places as left and as right
        Check.due("kinds(0, 0)", s.x.kinds(0, 0), 10);
        for (int n = 0; n < 10; n++) {
            int place = s.x.kind(0, 0, n, 0);
            Check.due("kind(0, 0, " + n + ", 3), place " + place, s.x.kind(0, 0, n, 3), place == 5 ? 12 : 2);
        }
    }

    private static void kindRefused() {
        Check.sentence("MANY (2), how often it comes (3). BAD: the least int.");
        Scene s = new Scene().turns(1);
        s.tell("add", 1, Scene.at(0, -2, 0, 0), Scene.at(0, -3, 0, 0), Scene.constant(0));
        Check.due("kind(0, 0, 1, 0)", s.x.kind(0, 0, 1, 0), -2);
        for (int n : Scene.beyond(0, 1)) {
            Check.due("kind(0, 0, " + n + ", 0)", s.x.kind(0, 0, n, 0), MIN);
        }
        for (int part : Scene.beyond(0, 3)) {
            Check.due("kind(0, 0, 0, " + part + ")", s.x.kind(0, 0, 0, part), MIN);
        }
        for (int r : Scene.beyond(0, 5)) {
            Check.due("kind(0, " + r + ", 0, 0)", s.x.kind(0, r, 0, 0), MIN);
        }
        for (int k : Scene.beyond(0, 0)) {
            Check.due("kind(" + k + ", 0, 0, 0)", s.x.kind(k, 0, 0, 0), MIN);
        }
        Check.due("of a row without kinds", s.x.kind(0, 5, 0, 0), MIN);
        Check.due("of the greatest row", s.x.kind(0, MAX, 0, 0), MIN);
    }
}
